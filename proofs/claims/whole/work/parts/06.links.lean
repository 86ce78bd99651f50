theorem p1k {w : Cond} (h : w ∈ k2_sels lw_privs_1) : w ∈ lw_tbl := by
  obtain ⟨q, h2, rfl⟩ := List.mem_map.mp h
  exact List.mem_append_left _ (List.mem_map.mpr ⟨q, List.mem_append_left _ h2, rfl⟩)
theorem p2k {w : Cond} (h : w ∈ k2_sels lw_privs_2) : w ∈ lw_tbl := by
  obtain ⟨q, h2, rfl⟩ := List.mem_map.mp h
  exact List.mem_append_left _ (List.mem_map.mpr ⟨q, List.mem_append_right _ (List.mem_append_left _ h2), rfl⟩)
theorem p3k {w : Cond} (h : w ∈ k2_sels lw_privs_3) : w ∈ lw_tbl := by
  obtain ⟨q, h2, rfl⟩ := List.mem_map.mp h
  exact List.mem_append_left _ (List.mem_map.mpr ⟨q, List.mem_append_right _ (List.mem_append_right _ (List.mem_append_left _ h2)), rfl⟩)
theorem p4k {w : Cond} (h : w ∈ k2_sels lw_privs_4) : w ∈ lw_tbl := by
  obtain ⟨q, h2, rfl⟩ := List.mem_map.mp h
  exact List.mem_append_left _ (List.mem_map.mpr ⟨q, List.mem_append_right _ (List.mem_append_right _ (List.mem_append_right _ (List.mem_append_left _ h2))), rfl⟩)
theorem p5k {w : Cond} (h : w ∈ k2_sels lw_privs_5) : w ∈ lw_tbl := by
  obtain ⟨q, h2, rfl⟩ := List.mem_map.mp h
  exact List.mem_append_left _ (List.mem_map.mpr ⟨q, List.mem_append_right _ (List.mem_append_right _ (List.mem_append_right _ (List.mem_append_right _ (List.mem_append_left _ h2)))), rfl⟩)
theorem p6k {w : Cond} (h : w ∈ k2_sels lw_privs_6) : w ∈ lw_tbl := by
  obtain ⟨q, h2, rfl⟩ := List.mem_map.mp h
  exact List.mem_append_left _ (List.mem_map.mpr ⟨q, List.mem_append_right _ (List.mem_append_right _ (List.mem_append_right _ (List.mem_append_right _ (List.mem_append_right _ (h2))))), rfl⟩)
theorem t1k {w : Cond} (h : w ∈ tables_1_1) : w ∈ lw_tbl := List.mem_append_right _ (List.mem_append_left _ h)
theorem t2k {w : Cond} (h : w ∈ tables_1_2) : w ∈ lw_tbl := List.mem_append_right _ (List.mem_append_right _ (List.mem_append_left _ h))
theorem t3k {w : Cond} (h : w ∈ tables_1_3) : w ∈ lw_tbl := List.mem_append_right _ (List.mem_append_right _ (List.mem_append_right _ (List.mem_append_left _ h)))
theorem t4k {w : Cond} (h : w ∈ tables_1_4) : w ∈ lw_tbl := List.mem_append_right _ (List.mem_append_right _ (List.mem_append_right _ (List.mem_append_right _ (List.mem_append_left _ h))))
theorem t5k {w : Cond} (h : w ∈ tables_1_5) : w ∈ lw_tbl := List.mem_append_right _ (List.mem_append_right _ (List.mem_append_right _ (List.mem_append_right _ (List.mem_append_right _ (List.mem_append_left _ h)))))
theorem t6k {w : Cond} (h : w ∈ tables_1_6) : w ∈ lw_tbl := List.mem_append_right _ (List.mem_append_right _ (List.mem_append_right _ (List.mem_append_right _ (List.mem_append_right _ (List.mem_append_right _ (List.mem_append_left _ h))))))
theorem t7k {w : Cond} (h : w ∈ tables_1_7) : w ∈ lw_tbl := List.mem_append_right _ (List.mem_append_right _ (List.mem_append_right _ (List.mem_append_right _ (List.mem_append_right _ (List.mem_append_right _ (List.mem_append_right _ (h)))))))
theorem gclX0 : gk_Cl 0 RX0 TX0 6 := ⟨rfl, fun w hw => gk_in (inX0 w hw) (List.all_eq_true.mp (by decide +kernel : (wsX00).all goodWord = true) w hw), ⟨tyX0, tyX0_ok⟩, nmX0⟩
theorem gclX1 : gk_Cl 1 RX1 TX1 5 := ⟨rfl, fun w hw => gk_in (inX1 w hw) (List.all_eq_true.mp (by decide +kernel : (wsX10).all goodWord = true) w hw), ⟨tyX1, tyX1_ok⟩, nmX1⟩
theorem gclX2 : gk_Cl 2 RX2 TX2 5 := ⟨rfl, fun w hw => gk_in (inX2 w hw) (List.all_eq_true.mp (by decide +kernel : (wsX20).all goodWord = true) w hw), ⟨tyX2, tyX2_ok⟩, nmX2⟩
theorem gclX3 : gk_Cl 3 RX3 TX3 2 := ⟨rfl, fun w hw => gk_in (inX3 w hw) (List.all_eq_true.mp (by decide +kernel : (wsX30).all goodWord = true) w hw), ⟨tyX3, tyX3_ok⟩, nmX3⟩
theorem gclX4 : gk_Cl 4 RX4 TX4 7 := ⟨rfl, fun w hw => gk_in (inX4 w hw) (List.all_eq_true.mp (by decide +kernel : (wsX40).all goodWord = true) w hw), ⟨tyX4, tyX4_ok⟩, nmX4⟩
theorem gclX5 : gk_Cl 5 RX5 TX5 8 := ⟨rfl, fun w hw => gk_in (inX5 w hw) (List.all_eq_true.mp (by decide +kernel : (wsX50).all goodWord = true) w hw), ⟨tyX5, tyX5_ok⟩, nmX5⟩
theorem gclX6 : gk_Cl 6 RX6 TX6 6 := ⟨rfl, fun w hw => gk_in (inX6 w hw) (List.all_eq_true.mp (by decide +kernel : (wsX60).all goodWord = true) w hw), ⟨tyX6, tyX6_ok⟩, nmX6⟩
theorem gclX7 : gk_Cl 7 RX7 TX7 4 := ⟨rfl, fun w hw => gk_in (inX7 w hw) (List.all_eq_true.mp (by decide +kernel : (wsX70).all goodWord = true) w hw), ⟨tyX7, tyX7_ok⟩, nmX7⟩
theorem gclX8 : gk_Cl 8 RX8 TX8 3 := ⟨rfl, fun w hw => gk_in (inX8 w hw) (List.all_eq_true.mp (by decide +kernel : (wsX80).all goodWord = true) w hw), ⟨tyX8, tyX8_ok⟩, nmX8⟩
theorem gclX9 : gk_Cl 9 RX9 TX9 2 := ⟨rfl, fun w hw => gk_in (inX9 w hw) (List.all_eq_true.mp (by decide +kernel : (wsX90).all goodWord = true) w hw), ⟨tyX9, tyX9_ok⟩, nmX9⟩
theorem gclX11 : gk_Cl 10 RX11 TX11 12 := ⟨rfl, fun w hw => gk_in (inX11 w hw) (List.all_eq_true.mp (by decide +kernel : (wsX110).all goodWord = true) w hw), ⟨tyX11, tyX11_ok⟩, nmX11⟩
theorem gclX12 : gk_Cl 11 RX12 TX12 34 := ⟨rfl, fun w hw => gk_in (inX12 w hw) (List.all_eq_true.mp (by decide +kernel : (wsX120).all goodWord = true) w hw), ⟨tyX12, tyX12_ok⟩, nmX12⟩
abbrev mJ0_charAt_5068e : gk_M := (yJ0_charAt_5068e, cJ0_charAt_5068e, 2, (some .char))
theorem kw_1011 : Cond.code yJ0_charAt_5068e prog_18_method_56_code 2 (some .char) ∈ gk_T := gk_in (t4k (List.mem_of_getElem? (i := 208) rfl)) rfl
theorem okJ0_charAt_5068e : gk_Ok mJ0_charAt_5068e 1 := ⟨⟨by decide +kernel, by decide +kernel, by decide +kernel⟩, by decide +kernel, by decide, kw_1011⟩
abbrev mJ0_checkIndex_df160 : gk_M := (yJ0_checkIndex_df160, cJ0_checkIndex_df160, 2, none)
theorem kw_1021 : Cond.code yJ0_checkIndex_df160 prog_18_method_155_code 2 none ∈ gk_T := gk_in (t4k (List.mem_of_getElem? (i := 218) rfl)) rfl
theorem okJ0_checkIndex_df160 : gk_Ok mJ0_checkIndex_df160 2 := ⟨⟨by decide +kernel, by decide +kernel, by decide +kernel⟩, by decide +kernel, by decide, kw_1021⟩
abbrev mJ0_coder_7d493 : gk_M := (yJ0_coder_7d493, cJ0_coder_7d493, 1, (some .byte))
theorem kw_1005 : Cond.code yJ0_coder_7d493 prog_18_method_152_code 1 (some .byte) ∈ gk_T := gk_in (t4k (List.mem_of_getElem? (i := 202) rfl)) rfl
theorem okJ0_coder_7d493 : gk_Ok mJ0_coder_7d493 0 := ⟨⟨by decide +kernel, by decide +kernel, by decide +kernel⟩, by decide +kernel, by decide, kw_1005⟩
abbrev mJ0_isLatin1_aae02 : gk_M := (yJ0_isLatin1_aae02, cJ0_isLatin1_aae02, 1, (some .boolean))
theorem kw_1015 : Cond.code yJ0_isLatin1_aae02 prog_18_method_154_code 1 (some .boolean) ∈ gk_T := gk_in (t4k (List.mem_of_getElem? (i := 212) rfl)) rfl
theorem okJ0_isLatin1_aae02 : gk_Ok mJ0_isLatin1_aae02 0 := ⟨⟨by decide +kernel, by decide +kernel, by decide +kernel⟩, by decide +kernel, by decide, kw_1015⟩
abbrev mJ0_length_8abf5 : gk_M := (yJ0_length_8abf5, cJ0_length_8abf5, 1, (some .int))
theorem kw_1001 : Cond.code yJ0_length_8abf5 prog_18_method_54_code 1 (some .int) ∈ gk_T := gk_in (t4k (List.mem_of_getElem? (i := 198) rfl)) rfl
theorem okJ0_length_8abf5 : gk_Ok mJ0_length_8abf5 0 := ⟨⟨by decide +kernel, by decide +kernel, by decide +kernel⟩, by decide +kernel, by decide, kw_1001⟩
abbrev mJ13_bitCount_95d88 : gk_M := (yJ13_bitCount_95d88, cJ13_bitCount_95d88, 2, (some .int))
theorem kw_495 : Cond.code yJ13_bitCount_95d88 prog_16_method_50_code 2 (some .int) ∈ gk_T := gk_in (t2k (List.mem_of_getElem? (i := 172) rfl)) rfl
theorem okJ13_bitCount_95d88 : gk_Ok mJ13_bitCount_95d88 1 := ⟨⟨by decide +kernel, by decide +kernel, by decide +kernel⟩, by decide +kernel, by decide, kw_495⟩
abbrev mJ1_charAt_3b067 : gk_M := (yJ1_charAt_3b067, cJ1_charAt_3b067, 2, (some .char))
theorem kw_1018 : Cond.code yJ1_charAt_3b067 prog_19_method_2_code 2 (some .char) ∈ gk_T := gk_in (t4k (List.mem_of_getElem? (i := 215) rfl)) rfl
theorem okJ1_charAt_3b067 : gk_Ok mJ1_charAt_3b067 2 := ⟨⟨by decide +kernel, by decide +kernel, by decide +kernel⟩, by decide +kernel, by decide, kw_1018⟩
abbrev mJ2_charAt_3b067 : gk_M := (yJ2_charAt_3b067, cJ2_charAt_3b067, 2, (some .char))
theorem kw_1029 : Cond.code yJ2_charAt_3b067 prog_20_method_83_code 2 (some .char) ∈ gk_T := gk_in (t4k (List.mem_of_getElem? (i := 226) rfl)) rfl
theorem okJ2_charAt_3b067 : gk_Ok mJ2_charAt_3b067 2 := ⟨⟨by decide +kernel, by decide +kernel, by decide +kernel⟩, by decide +kernel, by decide, kw_1029⟩
abbrev mJ2_checkIndex_2214a : gk_M := (yJ2_checkIndex_2214a, cJ2_checkIndex_2214a, 2, none)
theorem kw_1032 : Cond.code yJ2_checkIndex_2214a prog_20_method_91_code 2 none ∈ gk_T := gk_in (t4k (List.mem_of_getElem? (i := 229) rfl)) rfl
theorem okJ2_checkIndex_2214a : gk_Ok mJ2_checkIndex_2214a 2 := ⟨⟨by decide +kernel, by decide +kernel, by decide +kernel⟩, by decide +kernel, by decide, kw_1032⟩
abbrev mJ2_getChar_3b067 : gk_M := (yJ2_getChar_3b067, cJ2_getChar_3b067, 2, (some .char))
theorem kw_1039 : Cond.code yJ2_getChar_3b067 prog_20_method_5_code 2 (some .char) ∈ gk_T := gk_in (t4k (List.mem_of_getElem? (i := 236) rfl)) rfl
theorem okJ2_getChar_3b067 : gk_Ok mJ2_getChar_3b067 2 := ⟨⟨by decide +kernel, by decide +kernel, by decide +kernel⟩, by decide +kernel, by decide, kw_1039⟩
abbrev mJ2_length_9d52b : gk_M := (yJ2_length_9d52b, cJ2_length_9d52b, 1, (some .int))
theorem kw_1035 : Cond.code yJ2_length_9d52b prog_20_method_6_code 1 (some .int) ∈ gk_T := gk_in (t4k (List.mem_of_getElem? (i := 232) rfl)) rfl
theorem okJ2_length_9d52b : gk_Ok mJ2_length_9d52b 1 := ⟨⟨by decide +kernel, by decide +kernel, by decide +kernel⟩, by decide +kernel, by decide, kw_1035⟩
abbrev mJ3_checkIndex_8e157 : gk_M := (yJ3_checkIndex_8e157, cJ3_checkIndex_8e157, 3, (some .int))
theorem kw_1026 : Cond.code yJ3_checkIndex_8e157 prog_21_method_11_code 3 (some .int) ∈ gk_T := gk_in (t4k (List.mem_of_getElem? (i := 223) rfl)) rfl
theorem okJ3_checkIndex_8e157 : gk_Ok mJ3_checkIndex_8e157 3 := ⟨⟨by decide +kernel, by decide +kernel, by decide +kernel⟩, by decide +kernel, by decide, kw_1026⟩
abbrev mJ6_bitCount_0f7a4 : gk_M := (yJ6_bitCount_0f7a4, cJ6_bitCount_0f7a4, 1, (some .int))
theorem kw_662 : Cond.code yJ6_bitCount_0f7a4 prog_15_method_49_code 1 (some .int) ∈ gk_T := gk_in (t3k (List.mem_of_getElem? (i := 99) rfl)) rfl
theorem okJ6_bitCount_0f7a4 : gk_Ok mJ6_bitCount_0f7a4 1 := ⟨⟨by decide +kernel, by decide +kernel, by decide +kernel⟩, by decide +kernel, by decide, kw_662⟩
abbrev mX0_append : gk_M := (yX0_append, cX0_append, 5, none)
theorem kw_861 : Cond.code yX0_append prog_2_method_3_code 5 none ∈ gk_T := gk_in (t4k (List.mem_of_getElem? (i := 58) rfl)) rfl
theorem okX0_append : gk_Ok mX0_append 2 := ⟨⟨by decide +kernel, by decide +kernel, by decide +kernel⟩, by decide +kernel, by decide, kw_861⟩
abbrev mX0_dropClosed : gk_M := (yX0_dropClosed, cX0_dropClosed, 3, none)
theorem kw_887 : Cond.code yX0_dropClosed prog_2_method_5_code 3 none ∈ gk_T := gk_in (t4k (List.mem_of_getElem? (i := 84) rfl)) rfl
theorem okX0_dropClosed : gk_Ok mX0_dropClosed 0 := ⟨⟨by decide +kernel, by decide +kernel, by decide +kernel⟩, by decide +kernel, by decide, kw_887⟩
abbrev mX0_extend : gk_M := (yX0_extend, cX0_extend, 4, none)
theorem kw_882 : Cond.code yX0_extend prog_2_method_4_code 4 none ∈ gk_T := gk_in (t4k (List.mem_of_getElem? (i := 79) rfl)) rfl
theorem okX0_extend : gk_Ok mX0_extend 1 := ⟨⟨by decide +kernel, by decide +kernel, by decide +kernel⟩, by decide +kernel, by decide, kw_882⟩
abbrev mX0_init : gk_M := (yX0_init, cX0_init, 2, none)
theorem kw_321 : Cond.code yX0_init prog_2_method_1_code 2 none ∈ gk_T := gk_in (t1k (List.mem_of_getElem? (i := 238) rfl)) rfl
theorem okX0_init : gk_Ok mX0_init 1 := ⟨⟨by decide +kernel, by decide +kernel, by decide +kernel⟩, by decide +kernel, by decide, kw_321⟩
abbrev mX0_lay : gk_M := (yX0_lay, cX0_lay, 4, none)
theorem kw_856 : Cond.code yX0_lay prog_2_method_2_code 4 none ∈ gk_T := gk_in (t4k (List.mem_of_getElem? (i := 53) rfl)) rfl
theorem okX0_lay : gk_Ok mX0_lay 1 := ⟨⟨by decide +kernel, by decide +kernel, by decide +kernel⟩, by decide +kernel, by decide, kw_856⟩
abbrev mX0_rotate : gk_M := (yX0_rotate, cX0_rotate, 3, none)
theorem kw_896 : Cond.code yX0_rotate prog_2_method_6_code 3 none ∈ gk_T := gk_in (t4k (List.mem_of_getElem? (i := 93) rfl)) rfl
theorem okX0_rotate : gk_Ok mX0_rotate 0 := ⟨⟨by decide +kernel, by decide +kernel, by decide +kernel⟩, by decide +kernel, by decide, kw_896⟩
abbrev mX10_digits : gk_M := (yX10_digits, cX10_digits, 4, (some .int))
theorem kw_760 : Cond.code yX10_digits prog_12_method_9_code 4 (some .int) ∈ gk_T := gk_in (t3k (List.mem_of_getElem? (i := 197) rfl)) rfl
theorem okX10_digits : gk_Ok mX10_digits 1 := ⟨⟨by decide +kernel, by decide +kernel, by decide +kernel⟩, by decide +kernel, by decide, kw_760⟩
abbrev mX10_first : gk_M := (yX10_first, cX10_first, 3, (some .boolean))
theorem kw_706 : Cond.code yX10_first prog_12_method_5_code 3 (some .boolean) ∈ gk_T := gk_in (t3k (List.mem_of_getElem? (i := 143) rfl)) rfl
theorem okX10_first : gk_Ok mX10_first 0 := ⟨⟨by decide +kernel, by decide +kernel, by decide +kernel⟩, by decide +kernel, by decide, kw_706⟩
abbrev mX10_hold : gk_M := (yX10_hold, cX10_hold, 3, none)
theorem kw_700 : Cond.code yX10_hold prog_12_method_4_code 3 none ∈ gk_T := gk_in (t3k (List.mem_of_getElem? (i := 137) rfl)) rfl
theorem okX10_hold : gk_Ok mX10_hold 2 := ⟨⟨by decide +kernel, by decide +kernel, by decide +kernel⟩, by decide +kernel, by decide, kw_700⟩
abbrev mX10_init : gk_M := (yX10_init, cX10_init, 1, none)
theorem kw_208 : Cond.code yX10_init prog_12_method_1_code 1 none ∈ gk_T := gk_in (t1k (List.mem_of_getElem? (i := 125) rfl)) rfl
theorem okX10_init : gk_Ok mX10_init 0 := ⟨⟨by decide +kernel, by decide +kernel, by decide +kernel⟩, by decide +kernel, by decide, kw_208⟩
abbrev mX10_next : gk_M := (yX10_next, cX10_next, 2, (some .boolean))
theorem kw_766 : Cond.code yX10_next prog_12_method_6_code 2 (some .boolean) ∈ gk_T := gk_in (t3k (List.mem_of_getElem? (i := 203) rfl)) rfl
theorem okX10_next : gk_Ok mX10_next 0 := ⟨⟨by decide +kernel, by decide +kernel, by decide +kernel⟩, by decide +kernel, by decide, kw_766⟩
abbrev mX10_settle : gk_M := (yX10_settle, cX10_settle, 5, (some .boolean))
theorem kw_710 : Cond.code yX10_settle prog_12_method_7_code 5 (some .boolean) ∈ gk_T := gk_in (t3k (List.mem_of_getElem? (i := 147) rfl)) rfl
theorem okX10_settle : gk_Ok mX10_settle 1 := ⟨⟨by decide +kernel, by decide +kernel, by decide +kernel⟩, by decide +kernel, by decide, kw_710⟩
abbrev mX10_span : gk_M := (yX10_span, cX10_span, 5, none)
theorem kw_694 : Cond.code yX10_span prog_12_method_3_code 5 none ∈ gk_T := gk_in (t3k (List.mem_of_getElem? (i := 131) rfl)) rfl
theorem okX10_span : gk_Ok mX10_span 3 := ⟨⟨by decide +kernel, by decide +kernel, by decide +kernel⟩, by decide +kernel, by decide, kw_694⟩
abbrev mX10_turn : gk_M := (yX10_turn, cX10_turn, 4, (some .int))
theorem kw_734 : Cond.code yX10_turn prog_12_method_8_code 4 (some .int) ∈ gk_T := gk_in (t3k (List.mem_of_getElem? (i := 171) rfl)) rfl
theorem okX10_turn : gk_Ok mX10_turn 1 := ⟨⟨by decide +kernel, by decide +kernel, by decide +kernel⟩, by decide +kernel, by decide, kw_734⟩
abbrev mX11_answer : gk_M := (yX11_answer, cX11_answer, 2, (some .int))
theorem kw_871 : Cond.code yX11_answer prog_1_method_29_code 2 (some .int) ∈ gk_T := gk_in (t4k (List.mem_of_getElem? (i := 68) rfl)) rfl
theorem okX11_answer : gk_Ok mX11_answer 1 := ⟨⟨by decide +kernel, by decide +kernel, by decide +kernel⟩, by decide +kernel, by decide, kw_871⟩
abbrev mX11_ask : gk_M := (yX11_ask, cX11_ask, 2, (some .int))
theorem kw_867 : Cond.code yX11_ask prog_1_method_28_code 2 (some .int) ∈ gk_T := gk_in (t4k (List.mem_of_getElem? (i := 64) rfl)) rfl
theorem okX11_ask : gk_Ok mX11_ask 1 := ⟨⟨by decide +kernel, by decide +kernel, by decide +kernel⟩, by decide +kernel, by decide, kw_867⟩
abbrev mX11_atoms : gk_M := (yX11_atoms, cX11_atoms, 3, (some .int))
theorem kw_430 : Cond.code yX11_atoms prog_1_method_2_code 3 (some .int) ∈ gk_T := gk_in (t2k (List.mem_of_getElem? (i := 107) rfl)) rfl
theorem okX11_atoms : gk_Ok mX11_atoms 1 := ⟨⟨by decide +kernel, by decide +kernel, by decide +kernel⟩, by decide +kernel, by decide, kw_430⟩
abbrev mX11_begin : gk_M := (yX11_begin, cX11_begin, 2, (some .int))
theorem kw_852 : Cond.code yX11_begin prog_1_method_27_code 2 (some .int) ∈ gk_T := gk_in (t4k (List.mem_of_getElem? (i := 49) rfl)) rfl
theorem okX11_begin : gk_Ok mX11_begin 1 := ⟨⟨by decide +kernel, by decide +kernel, by decide +kernel⟩, by decide +kernel, by decide, kw_852⟩
abbrev mX11_board : gk_M := (yX11_board, cX11_board, 2, (some .int))
theorem kw_900 : Cond.code yX11_board prog_1_method_31_code 2 (some .int) ∈ gk_T := gk_in (t4k (List.mem_of_getElem? (i := 97) rfl)) rfl
theorem okX11_board : gk_Ok mX11_board 1 := ⟨⟨by decide +kernel, by decide +kernel, by decide +kernel⟩, by decide +kernel, by decide, kw_900⟩
abbrev mX11_broken : gk_M := (yX11_broken, cX11_broken, 2, (some .int))
theorem kw_560 : Cond.code yX11_broken prog_1_method_12_code 2 (some .int) ∈ gk_T := gk_in (t2k (List.mem_of_getElem? (i := 237) rfl)) rfl
theorem okX11_broken : gk_Ok mX11_broken 1 := ⟨⟨by decide +kernel, by decide +kernel, by decide +kernel⟩, by decide +kernel, by decide, kw_560⟩
abbrev mX11_compose : gk_M := (yX11_compose, cX11_compose, 3, (some .int))
theorem kw_510 : Cond.code yX11_compose prog_1_method_7_code 3 (some .int) ∈ gk_T := gk_in (t2k (List.mem_of_getElem? (i := 187) rfl)) rfl
theorem okX11_compose : gk_Ok mX11_compose 2 := ⟨⟨by decide +kernel, by decide +kernel, by decide +kernel⟩, by decide +kernel, by decide, kw_510⟩
abbrev mX11_converse : gk_M := (yX11_converse, cX11_converse, 2, (some .int))
theorem kw_463 : Cond.code yX11_converse prog_1_method_4_code 2 (some .int) ∈ gk_T := gk_in (t2k (List.mem_of_getElem? (i := 140) rfl)) rfl
theorem okX11_converse : gk_Ok mX11_converse 1 := ⟨⟨by decide +kernel, by decide +kernel, by decide +kernel⟩, by decide +kernel, by decide, kw_463⟩
abbrev mX11_copy : gk_M := (yX11_copy, cX11_copy, 3, (some .int))
theorem kw_633 : Cond.code yX11_copy prog_1_method_18_code 3 (some .int) ∈ gk_T := gk_in (t3k (List.mem_of_getElem? (i := 70) rfl)) rfl
theorem okX11_copy : gk_Ok mX11_copy 2 := ⟨⟨by decide +kernel, by decide +kernel, by decide +kernel⟩, by decide +kernel, by decide, kw_633⟩
abbrev mX11_count : gk_M := (yX11_count, cX11_count, 2, (some .int))
theorem kw_1124 : Cond.code yX11_count prog_1_method_44_code 2 (some .int) ∈ gk_T := gk_in (t5k (List.mem_of_getElem? (i := 81) rfl)) rfl
theorem okX11_count : gk_Ok mX11_count 1 := ⟨⟨by decide +kernel, by decide +kernel, by decide +kernel⟩, by decide +kernel, by decide, kw_1124⟩
abbrev mX11_cycles : gk_M := (yX11_cycles, cX11_cycles, 2, (some .int))
theorem kw_576 : Cond.code yX11_cycles prog_1_method_13_code 2 (some .int) ∈ gk_T := gk_in (t3k (List.mem_of_getElem? (i := 13) rfl)) rfl
theorem okX11_cycles : gk_Ok mX11_cycles 1 := ⟨⟨by decide +kernel, by decide +kernel, by decide +kernel⟩, by decide +kernel, by decide, kw_576⟩
abbrev mX11_drop : gk_M := (yX11_drop, cX11_drop, 3, (some .int))
theorem kw_612 : Cond.code yX11_drop prog_1_method_15_code 3 (some .int) ∈ gk_T := gk_in (t3k (List.mem_of_getElem? (i := 49) rfl)) rfl
theorem okX11_drop : gk_Ok mX11_drop 1 := ⟨⟨by decide +kernel, by decide +kernel, by decide +kernel⟩, by decide +kernel, by decide, kw_612⟩
abbrev mX11_equivalence : gk_M := (yX11_equivalence, cX11_equivalence, 4, (some .int))
theorem kw_543 : Cond.code yX11_equivalence prog_1_method_10_code 4 (some .int) ∈ gk_T := gk_in (t2k (List.mem_of_getElem? (i := 220) rfl)) rfl
theorem okX11_equivalence : gk_Ok mX11_equivalence 1 := ⟨⟨by decide +kernel, by decide +kernel, by decide +kernel⟩, by decide +kernel, by decide, kw_543⟩
abbrev mX11_feed : gk_M := (yX11_feed, cX11_feed, 2, (some .int))
theorem kw_968 : Cond.code yX11_feed prog_1_method_38_code 2 (some .int) ∈ gk_T := gk_in (t4k (List.mem_of_getElem? (i := 165) rfl)) rfl
theorem okX11_feed : gk_Ok mX11_feed 1 := ⟨⟨by decide +kernel, by decide +kernel, by decide +kernel⟩, by decide +kernel, by decide, kw_968⟩
abbrev mX11_fills : gk_M := (yX11_fills, cX11_fills, 5, (some .int))
theorem kw_675 : Cond.code yX11_fills prog_1_method_21_code 5 (some .int) ∈ gk_T := gk_in (t3k (List.mem_of_getElem? (i := 112) rfl)) rfl
theorem okX11_fills : gk_Ok mX11_fills 3 := ⟨⟨by decide +kernel, by decide +kernel, by decide +kernel⟩, by decide +kernel, by decide, kw_675⟩
abbrev mX11_forbid : gk_M := (yX11_forbid, cX11_forbid, 3, (some .int))
theorem kw_785 : Cond.code yX11_forbid prog_1_method_23_code 3 (some .int) ∈ gk_T := gk_in (t3k (List.mem_of_getElem? (i := 222) rfl)) rfl
theorem okX11_forbid : gk_Ok mX11_forbid 1 := ⟨⟨by decide +kernel, by decide +kernel, by decide +kernel⟩, by decide +kernel, by decide, kw_785⟩
abbrev mX11_forgetNetworks : gk_M := (yX11_forgetNetworks, cX11_forgetNetworks, 1, none)
theorem kw_435 : Cond.code yX11_forgetNetworks prog_1_method_53_code 1 none ∈ gk_T := gk_in (t2k (List.mem_of_getElem? (i := 112) rfl)) rfl
theorem okX11_forgetNetworks : gk_Ok mX11_forgetNetworks 0 := ⟨⟨by decide +kernel, by decide +kernel, by decide +kernel⟩, by decide +kernel, by decide, kw_435⟩
abbrev mX11_found : gk_M := (yX11_found, cX11_found, 4, (some .int))
theorem kw_936 : Cond.code yX11_found prog_1_method_34_code 4 (some .int) ∈ gk_T := gk_in (t4k (List.mem_of_getElem? (i := 133) rfl)) rfl
theorem okX11_found : gk_Ok mX11_found 1 := ⟨⟨by decide +kernel, by decide +kernel, by decide +kernel⟩, by decide +kernel, by decide, kw_936⟩
abbrev mX11_gameRefusal : gk_M := (yX11_gameRefusal, cX11_gameRefusal, 3, (some .int))
theorem kw_793 : Cond.code yX11_gameRefusal prog_1_method_55_code 3 (some .int) ∈ gk_T := gk_in (t3k (List.mem_of_getElem? (i := 230) rfl)) rfl
theorem okX11_gameRefusal : gk_Ok mX11_gameRefusal 2 := ⟨⟨by decide +kernel, by decide +kernel, by decide +kernel⟩, by decide +kernel, by decide, kw_793⟩
abbrev mX11_gap : gk_M := (yX11_gap, cX11_gap, 3, (some .int))
theorem kw_651 : Cond.code yX11_gap prog_1_method_20_code 3 (some .int) ∈ gk_T := gk_in (t3k (List.mem_of_getElem? (i := 88) rfl)) rfl
theorem okX11_gap : gk_Ok mX11_gap 2 := ⟨⟨by decide +kernel, by decide +kernel, by decide +kernel⟩, by decide +kernel, by decide, kw_651⟩
abbrev mX11_get : gk_M := (yX11_get, cX11_get, 3, (some .long))
theorem kw_963 : Cond.code yX11_get prog_1_method_37_code 3 (some .long) ∈ gk_T := gk_in (t4k (List.mem_of_getElem? (i := 160) rfl)) rfl
theorem okX11_get : gk_Ok mX11_get 2 := ⟨⟨by decide +kernel, by decide +kernel, by decide +kernel⟩, by decide +kernel, by decide, kw_963⟩
abbrev mX11_image : gk_M := (yX11_image, cX11_image, 1, (some .int))
theorem kw_1107 : Cond.code yX11_image prog_1_method_42_code 1 (some .int) ∈ gk_T := gk_in (t5k (List.mem_of_getElem? (i := 64) rfl)) rfl
theorem okX11_image : gk_Ok mX11_image 0 := ⟨⟨by decide +kernel, by decide +kernel, by decide +kernel⟩, by decide +kernel, by decide, kw_1107⟩
abbrev mX11_init : gk_M := (yX11_init, cX11_init, 2, none)
theorem kw_108 : Cond.code yX11_init prog_1_method_1_code 2 none ∈ gk_T := gk_in (t1k (List.mem_of_getElem? (i := 25) rfl)) rfl
theorem okX11_init : gk_Ok mX11_init 0 := ⟨⟨by decide +kernel, by decide +kernel, by decide +kernel⟩, by decide +kernel, by decide, kw_108⟩
abbrev mX11_isAtom : gk_M := (yX11_isAtom, cX11_isAtom, 2, (some .boolean))
theorem kw_483 : Cond.code yX11_isAtom prog_1_method_45_code 2 (some .boolean) ∈ gk_T := gk_in (t2k (List.mem_of_getElem? (i := 160) rfl)) rfl
theorem okX11_isAtom : gk_Ok mX11_isAtom 1 := ⟨⟨by decide +kernel, by decide +kernel, by decide +kernel⟩, by decide +kernel, by decide, kw_483⟩
abbrev mX11_isAtomButZero : gk_M := (yX11_isAtomButZero, cX11_isAtomButZero, 2, (some .boolean))
theorem kw_447 : Cond.code yX11_isAtomButZero prog_1_method_46_code 2 (some .boolean) ∈ gk_T := gk_in (t2k (List.mem_of_getElem? (i := 124) rfl)) rfl
theorem okX11_isAtomButZero : gk_Ok mX11_isAtomButZero 1 := ⟨⟨by decide +kernel, by decide +kernel, by decide +kernel⟩, by decide +kernel, by decide, kw_447⟩
abbrev mX11_isIn : gk_M := (yX11_isIn, cX11_isIn, 4, (some .int))
theorem kw_502 : Cond.code yX11_isIn prog_1_method_6_code 4 (some .int) ∈ gk_T := gk_in (t2k (List.mem_of_getElem? (i := 179) rfl)) rfl
theorem okX11_isIn : gk_Ok mX11_isIn 3 := ⟨⟨by decide +kernel, by decide +kernel, by decide +kernel⟩, by decide +kernel, by decide, kw_502⟩
abbrev mX11_isList : gk_M := (yX11_isList, cX11_isList, 1, (some .boolean))
theorem kw_911 : Cond.code yX11_isList prog_1_method_50_code 1 (some .boolean) ∈ gk_T := gk_in (t4k (List.mem_of_getElem? (i := 108) rfl)) rfl
theorem okX11_isList : gk_Ok mX11_isList 1 := ⟨⟨by decide +kernel, by decide +kernel, by decide +kernel⟩, by decide +kernel, by decide, kw_911⟩
abbrev mX11_isNet : gk_M := (yX11_isNet, cX11_isNet, 1, (some .boolean))
theorem kw_596 : Cond.code yX11_isNet prog_1_method_49_code 1 (some .boolean) ∈ gk_T := gk_in (t3k (List.mem_of_getElem? (i := 33) rfl)) rfl
theorem okX11_isNet : gk_Ok mX11_isNet 1 := ⟨⟨by decide +kernel, by decide +kernel, by decide +kernel⟩, by decide +kernel, by decide, kw_596⟩
abbrev mX11_isNode : gk_M := (yX11_isNode, cX11_isNode, 3, (some .boolean))
theorem kw_620 : Cond.code yX11_isNode prog_1_method_51_code 3 (some .boolean) ∈ gk_T := gk_in (t3k (List.mem_of_getElem? (i := 57) rfl)) rfl
theorem okX11_isNode : gk_Ok mX11_isNode 2 := ⟨⟨by decide +kernel, by decide +kernel, by decide +kernel⟩, by decide +kernel, by decide, kw_620⟩
abbrev mX11_isPlayable : gk_M := (yX11_isPlayable, cX11_isPlayable, 2, (some .boolean))
theorem kw_797 : Cond.code yX11_isPlayable prog_1_method_54_code 2 (some .boolean) ∈ gk_T := gk_in (t3k (List.mem_of_getElem? (i := 234) rfl)) rfl
theorem okX11_isPlayable : gk_Ok mX11_isPlayable 1 := ⟨⟨by decide +kernel, by decide +kernel, by decide +kernel⟩, by decide +kernel, by decide, kw_797⟩
abbrev mX11_isRelation : gk_M := (yX11_isRelation, cX11_isRelation, 2, (some .boolean))
theorem kw_467 : Cond.code yX11_isRelation prog_1_method_47_code 2 (some .boolean) ∈ gk_T := gk_in (t2k (List.mem_of_getElem? (i := 144) rfl)) rfl
theorem okX11_isRelation : gk_Ok mX11_isRelation 1 := ⟨⟨by decide +kernel, by decide +kernel, by decide +kernel⟩, by decide +kernel, by decide, kw_467⟩
abbrev mX11_isSide : gk_M := (yX11_isSide, cX11_isSide, 1, (some .boolean))
theorem kw_521 : Cond.code yX11_isSide prog_1_method_48_code 1 (some .boolean) ∈ gk_T := gk_in (t2k (List.mem_of_getElem? (i := 198) rfl)) rfl
theorem okX11_isSide : gk_Ok mX11_isSide 1 := ⟨⟨by decide +kernel, by decide +kernel, by decide +kernel⟩, by decide +kernel, by decide, kw_521⟩
abbrev mX11_judge : gk_M := (yX11_judge, cX11_judge, 2, (some .int))
theorem kw_908 : Cond.code yX11_judge prog_1_method_33_code 2 (some .int) ∈ gk_T := gk_in (t4k (List.mem_of_getElem? (i := 105) rfl)) rfl
theorem okX11_judge : gk_Ok mX11_judge 1 := ⟨⟨by decide +kernel, by decide +kernel, by decide +kernel⟩, by decide +kernel, by decide, kw_908⟩
abbrev mX11_killer : gk_M := (yX11_killer, cX11_killer, 4, (some .int))
theorem kw_838 : Cond.code yX11_killer prog_1_method_25_code 4 (some .int) ∈ gk_T := gk_in (t4k (List.mem_of_getElem? (i := 35) rfl)) rfl
theorem okX11_killer : gk_Ok mX11_killer 2 := ⟨⟨by decide +kernel, by decide +kernel, by decide +kernel⟩, by decide +kernel, by decide, kw_838⟩
abbrev mX11_label : gk_M := (yX11_label, cX11_label, 4, (some .int))
theorem kw_616 : Cond.code yX11_label prog_1_method_16_code 4 (some .int) ∈ gk_T := gk_in (t3k (List.mem_of_getElem? (i := 53) rfl)) rfl
theorem okX11_label : gk_Ok mX11_label 3 := ⟨⟨by decide +kernel, by decide +kernel, by decide +kernel⟩, by decide +kernel, by decide, kw_616⟩
abbrev mX11_lasts : gk_M := (yX11_lasts, cX11_lasts, 4, (some .int))
theorem kw_848 : Cond.code yX11_lasts prog_1_method_26_code 4 (some .int) ∈ gk_T := gk_in (t4k (List.mem_of_getElem? (i := 45) rfl)) rfl
theorem okX11_lasts : gk_Ok mX11_lasts 1 := ⟨⟨by decide +kernel, by decide +kernel, by decide +kernel⟩, by decide +kernel, by decide, kw_848⟩
abbrev mX11_later : gk_M := (yX11_later, cX11_later, 1, (some .int))
theorem kw_892 : Cond.code yX11_later prog_1_method_30_code 1 (some .int) ∈ gk_T := gk_in (t4k (List.mem_of_getElem? (i := 89) rfl)) rfl
theorem okX11_later : gk_Ok mX11_later 0 := ⟨⟨by decide +kernel, by decide +kernel, by decide +kernel⟩, by decide +kernel, by decide, kw_892⟩
abbrev mX11_list : gk_M := (yX11_list, cX11_list, 4, (some .int))
theorem kw_955 : Cond.code yX11_list prog_1_method_35_code 4 (some .int) ∈ gk_T := gk_in (t4k (List.mem_of_getElem? (i := 152) rfl)) rfl
theorem okX11_list : gk_Ok mX11_list 2 := ⟨⟨by decide +kernel, by decide +kernel, by decide +kernel⟩, by decide +kernel, by decide, kw_955⟩
abbrev mX11_listsPresent : gk_M := (yX11_listsPresent, cX11_listsPresent, 3, (some .int))
theorem kw_1128 : Cond.code yX11_listsPresent prog_1_method_52_code 3 (some .int) ∈ gk_T := gk_in (t5k (List.mem_of_getElem? (i := 85) rfl)) rfl
theorem okX11_listsPresent : gk_Ok mX11_listsPresent 0 := ⟨⟨by decide +kernel, by decide +kernel, by decide +kernel⟩, by decide +kernel, by decide, kw_1128⟩
abbrev mX11_node : gk_M := (yX11_node, cX11_node, 4, (some .int))
theorem kw_593 : Cond.code yX11_node prog_1_method_14_code 4 (some .int) ∈ gk_T := gk_in (t3k (List.mem_of_getElem? (i := 30) rfl)) rfl
theorem okX11_node : gk_Ok mX11_node 2 := ⟨⟨by decide +kernel, by decide +kernel, by decide +kernel⟩, by decide +kernel, by decide, kw_593⟩
abbrev mX11_occurs : gk_M := (yX11_occurs, cX11_occurs, 4, (some .int))
theorem kw_770 : Cond.code yX11_occurs prog_1_method_22_code 4 (some .int) ∈ gk_T := gk_in (t3k (List.mem_of_getElem? (i := 207) rfl)) rfl
theorem okX11_occurs : gk_Ok mX11_occurs 3 := ⟨⟨by decide +kernel, by decide +kernel, by decide +kernel⟩, by decide +kernel, by decide, kw_770⟩
abbrev mX11_over : gk_M := (yX11_over, cX11_over, 4, (some .int))
theorem kw_518 : Cond.code yX11_over prog_1_method_8_code 4 (some .int) ∈ gk_T := gk_in (t2k (List.mem_of_getElem? (i := 195) rfl)) rfl
theorem okX11_over : gk_Ok mX11_over 3 := ⟨⟨by decide +kernel, by decide +kernel, by decide +kernel⟩, by decide +kernel, by decide, kw_518⟩
abbrev mX11_pair : gk_M := (yX11_pair, cX11_pair, 3, (some .int))
theorem kw_443 : Cond.code yX11_pair prog_1_method_3_code 3 (some .int) ∈ gk_T := gk_in (t2k (List.mem_of_getElem? (i := 120) rfl)) rfl
theorem okX11_pair : gk_Ok mX11_pair 2 := ⟨⟨by decide +kernel, by decide +kernel, by decide +kernel⟩, by decide +kernel, by decide, kw_443⟩
abbrev mX11_perform : gk_M := (yX11_perform, cX11_perform, 6, (some .int))
theorem kw_1064 : Cond.code yX11_perform prog_1_method_56_code 6 (some .int) ∈ gk_T := gk_in (t5k (List.mem_of_getElem? (i := 21) rfl)) rfl
theorem okX11_perform : gk_Ok mX11_perform 0 := ⟨⟨by decide +kernel, by decide +kernel, by decide +kernel⟩, by decide +kernel, by decide, kw_1064⟩
abbrev mX11_power : gk_M := (yX11_power, cX11_power, 3, (some .int))
theorem kw_534 : Cond.code yX11_power prog_1_method_9_code 3 (some .int) ∈ gk_T := gk_in (t2k (List.mem_of_getElem? (i := 211) rfl)) rfl
theorem okX11_power : gk_Ok mX11_power 2 := ⟨⟨by decide +kernel, by decide +kernel, by decide +kernel⟩, by decide +kernel, by decide, kw_534⟩
abbrev mX11_put : gk_M := (yX11_put, cX11_put, 5, (some .int))
theorem kw_959 : Cond.code yX11_put prog_1_method_36_code 5 (some .int) ∈ gk_T := gk_in (t4k (List.mem_of_getElem? (i := 156) rfl)) rfl
theorem okX11_put : gk_Ok mX11_put 3 := ⟨⟨by decide +kernel, by decide +kernel, by decide +kernel⟩, by decide +kernel, by decide, kw_959⟩
abbrev mX11_read : gk_M := (yX11_read, cX11_read, 3, (some .int))
theorem kw_980 : Cond.code yX11_read prog_1_method_40_code 3 (some .int) ∈ gk_T := gk_in (t4k (List.mem_of_getElem? (i := 177) rfl)) rfl
theorem okX11_read : gk_Ok mX11_read 0 := ⟨⟨by decide +kernel, by decide +kernel, by decide +kernel⟩, by decide +kernel, by decide, kw_980⟩
abbrev mX11_relabel : gk_M := (yX11_relabel, cX11_relabel, 6, (some .int))
theorem kw_628 : Cond.code yX11_relabel prog_1_method_17_code 6 (some .int) ∈ gk_T := gk_in (t3k (List.mem_of_getElem? (i := 65) rfl)) rfl
theorem okX11_relabel : gk_Ok mX11_relabel 4 := ⟨⟨by decide +kernel, by decide +kernel, by decide +kernel⟩, by decide +kernel, by decide, kw_628⟩
abbrev mX11_solved : gk_M := (yX11_solved, cX11_solved, 5, (some .int))
theorem kw_552 : Cond.code yX11_solved prog_1_method_11_code 5 (some .int) ∈ gk_T := gk_in (t2k (List.mem_of_getElem? (i := 229) rfl)) rfl
theorem okX11_solved : gk_Ok mX11_solved 4 := ⟨⟨by decide +kernel, by decide +kernel, by decide +kernel⟩, by decide +kernel, by decide, kw_552⟩
abbrev mX11_sound : gk_M := (yX11_sound, cX11_sound, 2, (some .int))
theorem kw_641 : Cond.code yX11_sound prog_1_method_19_code 2 (some .int) ∈ gk_T := gk_in (t3k (List.mem_of_getElem? (i := 78) rfl)) rfl
theorem okX11_sound : gk_Ok mX11_sound 1 := ⟨⟨by decide +kernel, by decide +kernel, by decide +kernel⟩, by decide +kernel, by decide, kw_641⟩
abbrev mX11_spelled : gk_M := (yX11_spelled, cX11_spelled, 2, (some .int))
theorem kw_1082 : Cond.code yX11_spelled prog_1_method_41_code 2 (some .int) ∈ gk_T := gk_in (t5k (List.mem_of_getElem? (i := 39) rfl)) rfl
theorem okX11_spelled : gk_Ok mX11_spelled 1 := ⟨⟨by decide +kernel, by decide +kernel, by decide +kernel⟩, by decide +kernel, by decide, kw_1082⟩
abbrev mX11_statement : gk_M := (yX11_statement, cX11_statement, 6, (some .int))
theorem kw_1070 : Cond.code yX11_statement prog_1_method_57_code 6 (some .int) ∈ gk_T := gk_in (t5k (List.mem_of_getElem? (i := 27) rfl)) rfl
theorem okX11_statement : gk_Ok mX11_statement 2 := ⟨⟨by decide +kernel, by decide +kernel, by decide +kernel⟩, by decide +kernel, by decide, kw_1070⟩
abbrev mX11_take : gk_M := (yX11_take, cX11_take, 2, (some .int))
theorem kw_904 : Cond.code yX11_take prog_1_method_32_code 2 (some .int) ∈ gk_T := gk_in (t4k (List.mem_of_getElem? (i := 101) rfl)) rfl
theorem okX11_take : gk_Ok mX11_take 1 := ⟨⟨by decide +kernel, by decide +kernel, by decide +kernel⟩, by decide +kernel, by decide, kw_904⟩
abbrev mX11_triangle : gk_M := (yX11_triangle, cX11_triangle, 5, (some .int))
theorem kw_479 : Cond.code yX11_triangle prog_1_method_5_code 5 (some .int) ∈ gk_T := gk_in (t2k (List.mem_of_getElem? (i := 156) rfl)) rfl
theorem okX11_triangle : gk_Ok mX11_triangle 4 := ⟨⟨by decide +kernel, by decide +kernel, by decide +kernel⟩, by decide +kernel, by decide, kw_479⟩
abbrev mX11_undo : gk_M := (yX11_undo, cX11_undo, 1, (some .int))
theorem kw_1120 : Cond.code yX11_undo prog_1_method_43_code 1 (some .int) ∈ gk_T := gk_in (t5k (List.mem_of_getElem? (i := 77) rfl)) rfl
theorem okX11_undo : gk_Ok mX11_undo 0 := ⟨⟨by decide +kernel, by decide +kernel, by decide +kernel⟩, by decide +kernel, by decide, kw_1120⟩
abbrev mX11_wipe : gk_M := (yX11_wipe, cX11_wipe, 2, (some .int))
theorem kw_976 : Cond.code yX11_wipe prog_1_method_39_code 2 (some .int) ∈ gk_T := gk_in (t4k (List.mem_of_getElem? (i := 173) rfl)) rfl
theorem okX11_wipe : gk_Ok mX11_wipe 0 := ⟨⟨by decide +kernel, by decide +kernel, by decide +kernel⟩, by decide +kernel, by decide, kw_976⟩
abbrev mX11_won : gk_M := (yX11_won, cX11_won, 4, (some .int))
theorem kw_789 : Cond.code yX11_won prog_1_method_24_code 4 (some .int) ∈ gk_T := gk_in (t3k (List.mem_of_getElem? (i := 226) rfl)) rfl
theorem okX11_won : gk_Ok mX11_won 2 := ⟨⟨by decide +kernel, by decide +kernel, by decide +kernel⟩, by decide +kernel, by decide, kw_789⟩
abbrev mX12_answer : gk_M := (yX12_answer, cX12_answer, 5, (some .int))
theorem kw_1511 : Cond.code yX12_answer prog_14_method_70_code 5 (some .int) ∈ gk_T := gk_in (t6k (List.mem_of_getElem? (i := 228) rfl)) rfl
theorem okX12_answer : gk_Ok mX12_answer 1 := ⟨⟨by decide +kernel, by decide +kernel, by decide +kernel⟩, by decide +kernel, by decide, kw_1511⟩
abbrev mX12_areAtoms : gk_M := (yX12_areAtoms, cX12_areAtoms, 5, (some .boolean))
theorem kw_1360 : Cond.code yX12_areAtoms prog_14_method_35_code 5 (some .boolean) ∈ gk_T := gk_in (t6k (List.mem_of_getElem? (i := 77) rfl)) rfl
theorem okX12_areAtoms : gk_Ok mX12_areAtoms 2 := ⟨⟨by decide +kernel, by decide +kernel, by decide +kernel⟩, by decide +kernel, by decide, kw_1360⟩
abbrev mX12_ask : gk_M := (yX12_ask, cX12_ask, 2, (some .int))
theorem kw_1507 : Cond.code yX12_ask prog_14_method_68_code 2 (some .int) ∈ gk_T := gk_in (t6k (List.mem_of_getElem? (i := 224) rfl)) rfl
theorem okX12_ask : gk_Ok mX12_ask 1 := ⟨⟨by decide +kernel, by decide +kernel, by decide +kernel⟩, by decide +kernel, by decide, kw_1507⟩
abbrev mX12_atoms : gk_M := (yX12_atoms, cX12_atoms, 4, (some .int))
theorem kw_1247 : Cond.code yX12_atoms prog_14_method_9_code 4 (some .int) ∈ gk_T := gk_in (t5k (List.mem_of_getElem? (i := 204) rfl)) rfl
theorem okX12_atoms : gk_Ok mX12_atoms 1 := ⟨⟨by decide +kernel, by decide +kernel, by decide +kernel⟩, by decide +kernel, by decide, kw_1247⟩
abbrev mX12_begin : gk_M := (yX12_begin, cX12_begin, 3, (some .int))
theorem kw_1503 : Cond.code yX12_begin prog_14_method_67_code 3 (some .int) ∈ gk_T := gk_in (t6k (List.mem_of_getElem? (i := 220) rfl)) rfl
theorem okX12_begin : gk_Ok mX12_begin 1 := ⟨⟨by decide +kernel, by decide +kernel, by decide +kernel⟩, by decide +kernel, by decide, kw_1503⟩
abbrev mX12_board : gk_M := (yX12_board, cX12_board, 2, (some .int))
theorem kw_1523 : Cond.code yX12_board prog_14_method_72_code 2 (some .int) ∈ gk_T := gk_in (t7k (List.mem_of_getElem? (i := 0) rfl)) rfl
theorem okX12_board : gk_Ok mX12_board 1 := ⟨⟨by decide +kernel, by decide +kernel, by decide +kernel⟩, by decide +kernel, by decide, kw_1523⟩
abbrev mX12_broken : gk_M := (yX12_broken, cX12_broken, 10, (some .int))
theorem kw_1335 : Cond.code yX12_broken prog_14_method_25_code 10 (some .int) ∈ gk_T := gk_in (t6k (List.mem_of_getElem? (i := 52) rfl)) rfl
theorem okX12_broken : gk_Ok mX12_broken 1 := ⟨⟨by decide +kernel, by decide +kernel, by decide +kernel⟩, by decide +kernel, by decide, kw_1335⟩
abbrev mX12_comes : gk_M := (yX12_comes, cX12_comes, 5, none)
theorem kw_1364 : Cond.code yX12_comes prog_14_method_36_code 5 none ∈ gk_T := gk_in (t6k (List.mem_of_getElem? (i := 81) rfl)) rfl
theorem okX12_comes : gk_Ok mX12_comes 2 := ⟨⟨by decide +kernel, by decide +kernel, by decide +kernel⟩, by decide +kernel, by decide, kw_1364⟩
abbrev mX12_compose : gk_M := (yX12_compose, cX12_compose, 3, (some .int))
theorem kw_1298 : Cond.code yX12_compose prog_14_method_18_code 3 (some .int) ∈ gk_T := gk_in (t6k (List.mem_of_getElem? (i := 15) rfl)) rfl
theorem okX12_compose : gk_Ok mX12_compose 2 := ⟨⟨by decide +kernel, by decide +kernel, by decide +kernel⟩, by decide +kernel, by decide, kw_1298⟩
abbrev mX12_composed : gk_M := (yX12_composed, cX12_composed, 7, (some .int))
theorem kw_1302 : Cond.code yX12_composed prog_14_method_16_code 7 (some .int) ∈ gk_T := gk_in (t6k (List.mem_of_getElem? (i := 19) rfl)) rfl
theorem okX12_composed : gk_Ok mX12_composed 2 := ⟨⟨by decide +kernel, by decide +kernel, by decide +kernel⟩, by decide +kernel, by decide, kw_1302⟩
abbrev mX12_composedBy : gk_M := (yX12_composedBy, cX12_composedBy, 4, (some .int))
theorem kw_1310 : Cond.code yX12_composedBy prog_14_method_17_code 4 (some .int) ∈ gk_T := gk_in (t6k (List.mem_of_getElem? (i := 27) rfl)) rfl
theorem okX12_composedBy : gk_Ok mX12_composedBy 3 := ⟨⟨by decide +kernel, by decide +kernel, by decide +kernel⟩, by decide +kernel, by decide, kw_1310⟩
abbrev mX12_converse : gk_M := (yX12_converse, cX12_converse, 2, (some .int))
theorem kw_1263 : Cond.code yX12_converse prog_14_method_12_code 2 (some .int) ∈ gk_T := gk_in (t5k (List.mem_of_getElem? (i := 220) rfl)) rfl
theorem okX12_converse : gk_Ok mX12_converse 1 := ⟨⟨by decide +kernel, by decide +kernel, by decide +kernel⟩, by decide +kernel, by decide, kw_1263⟩
abbrev mX12_copy : gk_M := (yX12_copy, cX12_copy, 3, (some .int))
theorem kw_1395 : Cond.code yX12_copy prog_14_method_41_code 3 (some .int) ∈ gk_T := gk_in (t6k (List.mem_of_getElem? (i := 112) rfl)) rfl
theorem okX12_copy : gk_Ok mX12_copy 2 := ⟨⟨by decide +kernel, by decide +kernel, by decide +kernel⟩, by decide +kernel, by decide, kw_1395⟩
abbrev mX12_count : gk_M := (yX12_count, cX12_count, 4, (some .int))
theorem kw_1632 : Cond.code yX12_count prog_14_method_98_code 4 (some .int) ∈ gk_T := gk_in (t7k (List.mem_of_getElem? (i := 109) rfl)) rfl
theorem okX12_count : gk_Ok mX12_count 1 := ⟨⟨by decide +kernel, by decide +kernel, by decide +kernel⟩, by decide +kernel, by decide, kw_1632⟩
abbrev mX12_cycleOf : gk_M := (yX12_cycleOf, cX12_cycleOf, 8, (some .int))
theorem kw_1348 : Cond.code yX12_cycleOf prog_14_method_27_code 8 (some .int) ∈ gk_T := gk_in (t6k (List.mem_of_getElem? (i := 65) rfl)) rfl
theorem okX12_cycleOf : gk_Ok mX12_cycleOf 3 := ⟨⟨by decide +kernel, by decide +kernel, by decide +kernel⟩, by decide +kernel, by decide, kw_1348⟩
abbrev mX12_cycles : gk_M := (yX12_cycles, cX12_cycles, 9, (some .int))
theorem kw_1340 : Cond.code yX12_cycles prog_14_method_28_code 9 (some .int) ∈ gk_T := gk_in (t6k (List.mem_of_getElem? (i := 57) rfl)) rfl
theorem okX12_cycles : gk_Ok mX12_cycles 1 := ⟨⟨by decide +kernel, by decide +kernel, by decide +kernel⟩, by decide +kernel, by decide, kw_1340⟩
abbrev mX12_digit : gk_M := (yX12_digit, cX12_digit, 4, (some .int))
theorem kw_1367 : Cond.code yX12_digit prog_14_method_34_code 4 (some .int) ∈ gk_T := gk_in (t6k (List.mem_of_getElem? (i := 84) rfl)) rfl
theorem okX12_digit : gk_Ok mX12_digit 2 := ⟨⟨by decide +kernel, by decide +kernel, by decide +kernel⟩, by decide +kernel, by decide, kw_1367⟩
abbrev mX12_drop : gk_M := (yX12_drop, cX12_drop, 2, (some .int))
theorem kw_1375 : Cond.code yX12_drop prog_14_method_38_code 2 (some .int) ∈ gk_T := gk_in (t6k (List.mem_of_getElem? (i := 92) rfl)) rfl
theorem okX12_drop : gk_Ok mX12_drop 1 := ⟨⟨by decide +kernel, by decide +kernel, by decide +kernel⟩, by decide +kernel, by decide, kw_1375⟩
abbrev mX12_equivalence : gk_M := (yX12_equivalence, cX12_equivalence, 4, (some .int))
theorem kw_1322 : Cond.code yX12_equivalence prog_14_method_23_code 4 (some .int) ∈ gk_T := gk_in (t6k (List.mem_of_getElem? (i := 39) rfl)) rfl
theorem okX12_equivalence : gk_Ok mX12_equivalence 1 := ⟨⟨by decide +kernel, by decide +kernel, by decide +kernel⟩, by decide +kernel, by decide, kw_1322⟩
abbrev mX12_falseStep : gk_M := (yX12_falseStep, cX12_falseStep, 4, (some .int))
theorem kw_1542 : Cond.code yX12_falseStep prog_14_method_76_code 4 (some .int) ∈ gk_T := gk_in (t7k (List.mem_of_getElem? (i := 19) rfl)) rfl
theorem okX12_falseStep : gk_Ok mX12_falseStep 0 := ⟨⟨by decide +kernel, by decide +kernel, by decide +kernel⟩, by decide +kernel, by decide, kw_1542⟩
abbrev mX12_feed : gk_M := (yX12_feed, cX12_feed, 2, (some .int))
theorem kw_1571 : Cond.code yX12_feed prog_14_method_84_code 2 (some .int) ∈ gk_T := gk_in (t7k (List.mem_of_getElem? (i := 48) rfl)) rfl
theorem okX12_feed : gk_Ok mX12_feed 1 := ⟨⟨by decide +kernel, by decide +kernel, by decide +kernel⟩, by decide +kernel, by decide, kw_1571⟩
abbrev mX12_fills : gk_M := (yX12_fills, cX12_fills, 4, (some .int))
theorem kw_1443 : Cond.code yX12_fills prog_14_method_59_code 4 (some .int) ∈ gk_T := gk_in (t6k (List.mem_of_getElem? (i := 160) rfl)) rfl
theorem okX12_fills : gk_Ok mX12_fills 3 := ⟨⟨by decide +kernel, by decide +kernel, by decide +kernel⟩, by decide +kernel, by decide, kw_1443⟩
abbrev mX12_fillsFrom : gk_M := (yX12_fillsFrom, cX12_fillsFrom, 13, (some .boolean))
theorem kw_1459 : Cond.code yX12_fillsFrom prog_14_method_55_code 13 (some .boolean) ∈ gk_T := gk_in (t6k (List.mem_of_getElem? (i := 176) rfl)) rfl
theorem okX12_fillsFrom : gk_Ok mX12_fillsFrom 5 := ⟨⟨by decide +kernel, by decide +kernel, by decide +kernel⟩, by decide +kernel, by decide, kw_1459⟩
abbrev mX12_fixes : gk_M := (yX12_fixes, cX12_fixes, 5, none)
theorem kw_1138 : Cond.code yX12_fixes prog_14_method_8_code 5 none ∈ gk_T := gk_in (t5k (List.mem_of_getElem? (i := 95) rfl)) rfl
theorem okX12_fixes : gk_Ok mX12_fixes 0 := ⟨⟨by decide +kernel, by decide +kernel, by decide +kernel⟩, by decide +kernel, by decide, kw_1138⟩
abbrev mX12_forbid : gk_M := (yX12_forbid, cX12_forbid, 3, (some .int))
theorem kw_1439 : Cond.code yX12_forbid prog_14_method_53_code 3 (some .int) ∈ gk_T := gk_in (t6k (List.mem_of_getElem? (i := 156) rfl)) rfl
theorem okX12_forbid : gk_Ok mX12_forbid 1 := ⟨⟨by decide +kernel, by decide +kernel, by decide +kernel⟩, by decide +kernel, by decide, kw_1439⟩
abbrev mX12_found : gk_M := (yX12_found, cX12_found, 3, (some .int))
theorem kw_1550 : Cond.code yX12_found prog_14_method_79_code 3 (some .int) ∈ gk_T := gk_in (t7k (List.mem_of_getElem? (i := 27) rfl)) rfl
theorem okX12_found : gk_Ok mX12_found 1 := ⟨⟨by decide +kernel, by decide +kernel, by decide +kernel⟩, by decide +kernel, by decide, kw_1550⟩
abbrev mX12_gap : gk_M := (yX12_gap, cX12_gap, 5, (some .int))
theorem kw_1411 : Cond.code yX12_gap prog_14_method_47_code 5 (some .int) ∈ gk_T := gk_in (t6k (List.mem_of_getElem? (i := 128) rfl)) rfl
theorem okX12_gap : gk_Ok mX12_gap 2 := ⟨⟨by decide +kernel, by decide +kernel, by decide +kernel⟩, by decide +kernel, by decide, kw_1411⟩
abbrev mX12_gapBehind : gk_M := (yX12_gapBehind, cX12_gapBehind, 9, (some .int))
theorem kw_1415 : Cond.code yX12_gapBehind prog_14_method_46_code 9 (some .int) ∈ gk_T := gk_in (t6k (List.mem_of_getElem? (i := 132) rfl)) rfl
theorem okX12_gapBehind : gk_Ok mX12_gapBehind 2 := ⟨⟨by decide +kernel, by decide +kernel, by decide +kernel⟩, by decide +kernel, by decide, kw_1415⟩
abbrev mX12_get : gk_M := (yX12_get, cX12_get, 3, (some .long))
theorem kw_1566 : Cond.code yX12_get prog_14_method_83_code 3 (some .long) ∈ gk_T := gk_in (t7k (List.mem_of_getElem? (i := 43) rfl)) rfl
theorem okX12_get : gk_Ok mX12_get 2 := ⟨⟨by decide +kernel, by decide +kernel, by decide +kernel⟩, by decide +kernel, by decide, kw_1566⟩
abbrev mX12_has : gk_M := (yX12_has, cX12_has, 2, (some .boolean))
theorem kw_1274 : Cond.code yX12_has prog_14_method_6_code 2 (some .boolean) ∈ gk_T := gk_in (t5k (List.mem_of_getElem? (i := 231) rfl)) rfl
theorem okX12_has : gk_Ok mX12_has 2 := ⟨⟨by decide +kernel, by decide +kernel, by decide +kernel⟩, by decide +kernel, by decide, kw_1274⟩
abbrev mX12_image : gk_M := (yX12_image, cX12_image, 2, (some .int))
theorem kw_1624 : Cond.code yX12_image prog_14_method_96_code 2 (some .int) ∈ gk_T := gk_in (t7k (List.mem_of_getElem? (i := 101) rfl)) rfl
theorem okX12_image : gk_Ok mX12_image 0 := ⟨⟨by decide +kernel, by decide +kernel, by decide +kernel⟩, by decide +kernel, by decide, kw_1624⟩
abbrev mX12_init : gk_M := (yX12_init, cX12_init, 1, none)
theorem kw_1133 : Cond.code yX12_init prog_14_method_1_code 1 none ∈ gk_T := gk_in (t5k (List.mem_of_getElem? (i := 90) rfl)) rfl
theorem okX12_init : gk_Ok mX12_init 0 := ⟨⟨by decide +kernel, by decide +kernel, by decide +kernel⟩, by decide +kernel, by decide, kw_1133⟩
abbrev mX12_is : gk_M := (yX12_is, cX12_is, 4, (some .boolean))
theorem kw_1294 : Cond.code yX12_is prog_14_method_7_code 4 (some .boolean) ∈ gk_T := gk_in (t6k (List.mem_of_getElem? (i := 11) rfl)) rfl
theorem okX12_is : gk_Ok mX12_is 3 := ⟨⟨by decide +kernel, by decide +kernel, by decide +kernel⟩, by decide +kernel, by decide, kw_1294⟩
abbrev mX12_isAllHad : gk_M := (yX12_isAllHad, cX12_isAllHad, 3, (some .boolean))
theorem kw_1538 : Cond.code yX12_isAllHad prog_14_method_75_code 3 (some .boolean) ∈ gk_T := gk_in (t7k (List.mem_of_getElem? (i := 15) rfl)) rfl
theorem okX12_isAllHad : gk_Ok mX12_isAllHad 0 := ⟨⟨by decide +kernel, by decide +kernel, by decide +kernel⟩, by decide +kernel, by decide, kw_1538⟩
abbrev mX12_isAt : gk_M := (yX12_isAt, cX12_isAt, 3, (some .boolean))
theorem kw_1593 : Cond.code yX12_isAt prog_14_method_86_code 3 (some .boolean) ∈ gk_T := gk_in (t7k (List.mem_of_getElem? (i := 70) rfl)) rfl
theorem okX12_isAt : gk_Ok mX12_isAt 2 := ⟨⟨by decide +kernel, by decide +kernel, by decide +kernel⟩, by decide +kernel, by decide, kw_1593⟩
abbrev mX12_isAtom : gk_M := (yX12_isAtom, cX12_isAtom, 2, (some .boolean))
theorem kw_1282 : Cond.code yX12_isAtom prog_14_method_3_code 2 (some .boolean) ∈ gk_T := gk_in (t5k (List.mem_of_getElem? (i := 239) rfl)) rfl
theorem okX12_isAtom : gk_Ok mX12_isAtom 1 := ⟨⟨by decide +kernel, by decide +kernel, by decide +kernel⟩, by decide +kernel, by decide, kw_1282⟩
abbrev mX12_isBarred : gk_M := (yX12_isBarred, cX12_isBarred, 2, (some .boolean))
theorem kw_1467 : Cond.code yX12_isBarred prog_14_method_51_code 2 (some .boolean) ∈ gk_T := gk_in (t6k (List.mem_of_getElem? (i := 184) rfl)) rfl
theorem okX12_isBarred : gk_Ok mX12_isBarred 1 := ⟨⟨by decide +kernel, by decide +kernel, by decide +kernel⟩, by decide +kernel, by decide, kw_1467⟩
abbrev mX12_isDone : gk_M := (yX12_isDone, cX12_isDone, 2, (some .boolean))
theorem kw_1597 : Cond.code yX12_isDone prog_14_method_89_code 2 (some .boolean) ∈ gk_T := gk_in (t7k (List.mem_of_getElem? (i := 74) rfl)) rfl
theorem okX12_isDone : gk_Ok mX12_isDone 1 := ⟨⟨by decide +kernel, by decide +kernel, by decide +kernel⟩, by decide +kernel, by decide, kw_1597⟩
abbrev mX12_isEquivalence : gk_M := (yX12_isEquivalence, cX12_isEquivalence, 2, (some .boolean))
theorem kw_1326 : Cond.code yX12_isEquivalence prog_14_method_22_code 2 (some .boolean) ∈ gk_T := gk_in (t6k (List.mem_of_getElem? (i := 43) rfl)) rfl
theorem okX12_isEquivalence : gk_Ok mX12_isEquivalence 1 := ⟨⟨by decide +kernel, by decide +kernel, by decide +kernel⟩, by decide +kernel, by decide, kw_1326⟩
abbrev mX12_isFillOf : gk_M := (yX12_isFillOf, cX12_isFillOf, 3, (some .boolean))
theorem kw_1515 : Cond.code yX12_isFillOf prog_14_method_69_code 3 (some .boolean) ∈ gk_T := gk_in (t6k (List.mem_of_getElem? (i := 232) rfl)) rfl
theorem okX12_isFillOf : gk_Ok mX12_isFillOf 2 := ⟨⟨by decide +kernel, by decide +kernel, by decide +kernel⟩, by decide +kernel, by decide, kw_1515⟩
abbrev mX12_isFillable : gk_M := (yX12_isFillable, cX12_isFillable, 5, (some .boolean))
theorem kw_1455 : Cond.code yX12_isFillable prog_14_method_57_code 5 (some .boolean) ∈ gk_T := gk_in (t6k (List.mem_of_getElem? (i := 172) rfl)) rfl
theorem okX12_isFillable : gk_Ok mX12_isFillable 2 := ⟨⟨by decide +kernel, by decide +kernel, by decide +kernel⟩, by decide +kernel, by decide, kw_1455⟩
abbrev mX12_isFilled : gk_M := (yX12_isFilled, cX12_isFilled, 8, (some .boolean))
theorem kw_1463 : Cond.code yX12_isFilled prog_14_method_56_code 8 (some .boolean) ∈ gk_T := gk_in (t6k (List.mem_of_getElem? (i := 180) rfl)) rfl
theorem okX12_isFilled : gk_Ok mX12_isFilled 2 := ⟨⟨by decide +kernel, by decide +kernel, by decide +kernel⟩, by decide +kernel, by decide, kw_1463⟩
abbrev mX12_isFrom : gk_M := (yX12_isFrom, cX12_isFrom, 6, (some .boolean))
theorem kw_1251 : Cond.code yX12_isFrom prog_14_method_2_code 6 (some .boolean) ∈ gk_T := gk_in (t5k (List.mem_of_getElem? (i := 208) rfl)) rfl
theorem okX12_isFrom : gk_Ok mX12_isFrom 3 := ⟨⟨by decide +kernel, by decide +kernel, by decide +kernel⟩, by decide +kernel, by decide, kw_1251⟩
abbrev mX12_isGap : gk_M := (yX12_isGap, cX12_isGap, 7, (some .boolean))
theorem kw_1419 : Cond.code yX12_isGap prog_14_method_44_code 7 (some .boolean) ∈ gk_T := gk_in (t6k (List.mem_of_getElem? (i := 136) rfl)) rfl
theorem okX12_isGap : gk_Ok mX12_isGap 5 := ⟨⟨by decide +kernel, by decide +kernel, by decide +kernel⟩, by decide +kernel, by decide, kw_1419⟩
abbrev mX12_isGapOf : gk_M := (yX12_isGapOf, cX12_isGapOf, 7, (some .boolean))
theorem kw_1447 : Cond.code yX12_isGapOf prog_14_method_45_code 7 (some .boolean) ∈ gk_T := gk_in (t6k (List.mem_of_getElem? (i := 164) rfl)) rfl
theorem okX12_isGapOf : gk_Ok mX12_isGapOf 2 := ⟨⟨by decide +kernel, by decide +kernel, by decide +kernel⟩, by decide +kernel, by decide, kw_1447⟩
abbrev mX12_isIn : gk_M := (yX12_isIn, cX12_isIn, 4, (some .int))
theorem kw_1290 : Cond.code yX12_isIn prog_14_method_15_code 4 (some .int) ∈ gk_T := gk_in (t6k (List.mem_of_getElem? (i := 7) rfl)) rfl
theorem okX12_isIn : gk_Ok mX12_isIn 3 := ⟨⟨by decide +kernel, by decide +kernel, by decide +kernel⟩, by decide +kernel, by decide, kw_1290⟩
abbrev mX12_isLeast : gk_M := (yX12_isLeast, cX12_isLeast, 6, (some .boolean))
theorem kw_1344 : Cond.code yX12_isLeast prog_14_method_26_code 6 (some .boolean) ∈ gk_T := gk_in (t6k (List.mem_of_getElem? (i := 61) rfl)) rfl
theorem okX12_isLeast : gk_Ok mX12_isLeast 3 := ⟨⟨by decide +kernel, by decide +kernel, by decide +kernel⟩, by decide +kernel, by decide, kw_1344⟩
abbrev mX12_isLike : gk_M := (yX12_isLike, cX12_isLike, 9, (some .boolean))
theorem kw_1435 : Cond.code yX12_isLike prog_14_method_48_code 9 (some .boolean) ∈ gk_T := gk_in (t6k (List.mem_of_getElem? (i := 152) rfl)) rfl
theorem okX12_isLike : gk_Ok mX12_isLike 5 := ⟨⟨by decide +kernel, by decide +kernel, by decide +kernel⟩, by decide +kernel, by decide, kw_1435⟩
abbrev mX12_isList : gk_M := (yX12_isList, cX12_isList, 1, (some .boolean))
theorem kw_1534 : Cond.code yX12_isList prog_14_method_80_code 1 (some .boolean) ∈ gk_T := gk_in (t7k (List.mem_of_getElem? (i := 11) rfl)) rfl
theorem okX12_isList : gk_Ok mX12_isList 1 := ⟨⟨by decide +kernel, by decide +kernel, by decide +kernel⟩, by decide +kernel, by decide, kw_1534⟩
abbrev mX12_isMet : gk_M := (yX12_isMet, cX12_isMet, 5, (some .boolean))
theorem kw_1546 : Cond.code yX12_isMet prog_14_method_74_code 5 (some .boolean) ∈ gk_T := gk_in (t7k (List.mem_of_getElem? (i := 23) rfl)) rfl
theorem okX12_isMet : gk_Ok mX12_isMet 3 := ⟨⟨by decide +kernel, by decide +kernel, by decide +kernel⟩, by decide +kernel, by decide, kw_1546⟩
abbrev mX12_isNet : gk_M := (yX12_isNet, cX12_isNet, 1, (some .boolean))
theorem kw_1356 : Cond.code yX12_isNet prog_14_method_29_code 1 (some .boolean) ∈ gk_T := gk_in (t6k (List.mem_of_getElem? (i := 73) rfl)) rfl
theorem okX12_isNet : gk_Ok mX12_isNet 1 := ⟨⟨by decide +kernel, by decide +kernel, by decide +kernel⟩, by decide +kernel, by decide, kw_1356⟩
abbrev mX12_isNode : gk_M := (yX12_isNode, cX12_isNode, 3, (some .boolean))
theorem kw_1383 : Cond.code yX12_isNode prog_14_method_30_code 3 (some .boolean) ∈ gk_T := gk_in (t6k (List.mem_of_getElem? (i := 100) rfl)) rfl
theorem okX12_isNode : gk_Ok mX12_isNode 2 := ⟨⟨by decide +kernel, by decide +kernel, by decide +kernel⟩, by decide +kernel, by decide, kw_1383⟩
abbrev mX12_isOther : gk_M := (yX12_isOther, cX12_isOther, 2, (some .boolean))
theorem kw_1259 : Cond.code yX12_isOther prog_14_method_4_code 2 (some .boolean) ∈ gk_T := gk_in (t5k (List.mem_of_getElem? (i := 216) rfl)) rfl
theorem okX12_isOther : gk_Ok mX12_isOther 1 := ⟨⟨by decide +kernel, by decide +kernel, by decide +kernel⟩, by decide +kernel, by decide, kw_1259⟩
abbrev mX12_isPictured : gk_M := (yX12_isPictured, cX12_isPictured, 3, (some .boolean))
theorem kw_1554 : Cond.code yX12_isPictured prog_14_method_78_code 3 (some .boolean) ∈ gk_T := gk_in (t7k (List.mem_of_getElem? (i := 31) rfl)) rfl
theorem okX12_isPictured : gk_Ok mX12_isPictured 1 := ⟨⟨by decide +kernel, by decide +kernel, by decide +kernel⟩, by decide +kernel, by decide, kw_1554⟩
abbrev mX12_isPlayed : gk_M := (yX12_isPlayed, cX12_isPlayed, 2, (some .boolean))
theorem kw_1491 : Cond.code yX12_isPlayed prog_14_method_62_code 2 (some .boolean) ∈ gk_T := gk_in (t6k (List.mem_of_getElem? (i := 208) rfl)) rfl
theorem okX12_isPlayed : gk_Ok mX12_isPlayed 1 := ⟨⟨by decide +kernel, by decide +kernel, by decide +kernel⟩, by decide +kernel, by decide, kw_1491⟩
abbrev mX12_isRelation : gk_M := (yX12_isRelation, cX12_isRelation, 2, (some .boolean))
theorem kw_1267 : Cond.code yX12_isRelation prog_14_method_5_code 2 (some .boolean) ∈ gk_T := gk_in (t5k (List.mem_of_getElem? (i := 224) rfl)) rfl
theorem okX12_isRelation : gk_Ok mX12_isRelation 1 := ⟨⟨by decide +kernel, by decide +kernel, by decide +kernel⟩, by decide +kernel, by decide, kw_1267⟩
abbrev mX12_isWon : gk_M := (yX12_isWon, cX12_isWon, 2, (some .boolean))
theorem kw_1471 : Cond.code yX12_isWon prog_14_method_60_code 2 (some .boolean) ∈ gk_T := gk_in (t6k (List.mem_of_getElem? (i := 188) rfl)) rfl
theorem okX12_isWon : gk_Ok mX12_isWon 1 := ⟨⟨by decide +kernel, by decide +kernel, by decide +kernel⟩, by decide +kernel, by decide, kw_1471⟩
abbrev mX12_judge : gk_M := (yX12_judge, cX12_judge, 7, (some .int))
theorem kw_1531 : Cond.code yX12_judge prog_14_method_77_code 7 (some .int) ∈ gk_T := gk_in (t7k (List.mem_of_getElem? (i := 8) rfl)) rfl
theorem okX12_judge : gk_Ok mX12_judge 1 := ⟨⟨by decide +kernel, by decide +kernel, by decide +kernel⟩, by decide +kernel, by decide, kw_1531⟩
abbrev mX12_killer : gk_M := (yX12_killer, cX12_killer, 4, (some .int))
theorem kw_1495 : Cond.code yX12_killer prog_14_method_65_code 4 (some .int) ∈ gk_T := gk_in (t6k (List.mem_of_getElem? (i := 212) rfl)) rfl
theorem okX12_killer : gk_Ok mX12_killer 2 := ⟨⟨by decide +kernel, by decide +kernel, by decide +kernel⟩, by decide +kernel, by decide, kw_1495⟩
abbrev mX12_killerOf : gk_M := (yX12_killerOf, cX12_killerOf, 3, (some .int))
theorem kw_1475 : Cond.code yX12_killerOf prog_14_method_61_code 3 (some .int) ∈ gk_T := gk_in (t6k (List.mem_of_getElem? (i := 192) rfl)) rfl
theorem okX12_killerOf : gk_Ok mX12_killerOf 1 := ⟨⟨by decide +kernel, by decide +kernel, by decide +kernel⟩, by decide +kernel, by decide, kw_1475⟩
abbrev mX12_label : gk_M := (yX12_label, cX12_label, 4, (some .int))
theorem kw_1379 : Cond.code yX12_label prog_14_method_39_code 4 (some .int) ∈ gk_T := gk_in (t6k (List.mem_of_getElem? (i := 96) rfl)) rfl
theorem okX12_label : gk_Ok mX12_label 3 := ⟨⟨by decide +kernel, by decide +kernel, by decide +kernel⟩, by decide +kernel, by decide, kw_1379⟩
abbrev mX12_labelOf : gk_M := (yX12_labelOf, cX12_labelOf, 4, (some .int))
theorem kw_1387 : Cond.code yX12_labelOf prog_14_method_31_code 4 (some .int) ∈ gk_T := gk_in (t6k (List.mem_of_getElem? (i := 104) rfl)) rfl
theorem okX12_labelOf : gk_Ok mX12_labelOf 3 := ⟨⟨by decide +kernel, by decide +kernel, by decide +kernel⟩, by decide +kernel, by decide, kw_1387⟩
abbrev mX12_lasts : gk_M := (yX12_lasts, cX12_lasts, 3, (some .int))
theorem kw_1499 : Cond.code yX12_lasts prog_14_method_66_code 3 (some .int) ∈ gk_T := gk_in (t6k (List.mem_of_getElem? (i := 216) rfl)) rfl
theorem okX12_lasts : gk_Ok mX12_lasts 1 := ⟨⟨by decide +kernel, by decide +kernel, by decide +kernel⟩, by decide +kernel, by decide, kw_1499⟩
abbrev mX12_later : gk_M := (yX12_later, cX12_later, 3, (some .int))
theorem kw_1519 : Cond.code yX12_later prog_14_method_71_code 3 (some .int) ∈ gk_T := gk_in (t6k (List.mem_of_getElem? (i := 236) rfl)) rfl
theorem okX12_later : gk_Ok mX12_later 0 := ⟨⟨by decide +kernel, by decide +kernel, by decide +kernel⟩, by decide +kernel, by decide, kw_1519⟩
abbrev mX12_lays : gk_M := (yX12_lays, cX12_lays, 5, none)
theorem kw_1371 : Cond.code yX12_lays prog_14_method_32_code 5 none ∈ gk_T := gk_in (t6k (List.mem_of_getElem? (i := 88) rfl)) rfl
theorem okX12_lays : gk_Ok mX12_lays 4 := ⟨⟨by decide +kernel, by decide +kernel, by decide +kernel⟩, by decide +kernel, by decide, kw_1371⟩
abbrev mX12_likens : gk_M := (yX12_likens, cX12_likens, 4, none)
theorem kw_1399 : Cond.code yX12_likens prog_14_method_33_code 4 none ∈ gk_T := gk_in (t6k (List.mem_of_getElem? (i := 116) rfl)) rfl
theorem okX12_likens : gk_Ok mX12_likens 2 := ⟨⟨by decide +kernel, by decide +kernel, by decide +kernel⟩, by decide +kernel, by decide, kw_1399⟩
abbrev mX12_list : gk_M := (yX12_list, cX12_list, 4, (some .int))
theorem kw_1558 : Cond.code yX12_list prog_14_method_81_code 4 (some .int) ∈ gk_T := gk_in (t7k (List.mem_of_getElem? (i := 35) rfl)) rfl
theorem okX12_list : gk_Ok mX12_list 2 := ⟨⟨by decide +kernel, by decide +kernel, by decide +kernel⟩, by decide +kernel, by decide, kw_1558⟩
abbrev mX12_looks : gk_M := (yX12_looks, cX12_looks, 6, none)
theorem kw_1427 : Cond.code yX12_looks prog_14_method_50_code 6 none ∈ gk_T := gk_in (t6k (List.mem_of_getElem? (i := 144) rfl)) rfl
theorem okX12_looks : gk_Ok mX12_looks 3 := ⟨⟨by decide +kernel, by decide +kernel, by decide +kernel⟩, by decide +kernel, by decide, kw_1427⟩
abbrev mX12_looksToFill : gk_M := (yX12_looksToFill, cX12_looksToFill, 4, none)
theorem kw_1451 : Cond.code yX12_looksToFill prog_14_method_58_code 4 none ∈ gk_T := gk_in (t6k (List.mem_of_getElem? (i := 168) rfl)) rfl
theorem okX12_looksToFill : gk_Ok mX12_looksToFill 3 := ⟨⟨by decide +kernel, by decide +kernel, by decide +kernel⟩, by decide +kernel, by decide, kw_1451⟩
abbrev mX12_mayStand : gk_M := (yX12_mayStand, cX12_mayStand, 5, (some .boolean))
theorem kw_1479 : Cond.code yX12_mayStand prog_14_method_54_code 5 (some .boolean) ∈ gk_T := gk_in (t6k (List.mem_of_getElem? (i := 196) rfl)) rfl
theorem okX12_mayStand : gk_Ok mX12_mayStand 2 := ⟨⟨by decide +kernel, by decide +kernel, by decide +kernel⟩, by decide +kernel, by decide, kw_1479⟩
abbrev mX12_node : gk_M := (yX12_node, cX12_node, 3, (some .int))
theorem kw_1353 : Cond.code yX12_node prog_14_method_37_code 3 (some .int) ∈ gk_T := gk_in (t6k (List.mem_of_getElem? (i := 70) rfl)) rfl
theorem okX12_node : gk_Ok mX12_node 2 := ⟨⟨by decide +kernel, by decide +kernel, by decide +kernel⟩, by decide +kernel, by decide, kw_1353⟩
abbrev mX12_occurs : gk_M := (yX12_occurs, cX12_occurs, 4, (some .int))
theorem kw_1423 : Cond.code yX12_occurs prog_14_method_52_code 4 (some .int) ∈ gk_T := gk_in (t6k (List.mem_of_getElem? (i := 140) rfl)) rfl
theorem okX12_occurs : gk_Ok mX12_occurs 3 := ⟨⟨by decide +kernel, by decide +kernel, by decide +kernel⟩, by decide +kernel, by decide, kw_1423⟩
abbrev mX12_over : gk_M := (yX12_over, cX12_over, 6, (some .int))
theorem kw_1306 : Cond.code yX12_over prog_14_method_19_code 6 (some .int) ∈ gk_T := gk_in (t6k (List.mem_of_getElem? (i := 23) rfl)) rfl
theorem okX12_over : gk_Ok mX12_over 3 := ⟨⟨by decide +kernel, by decide +kernel, by decide +kernel⟩, by decide +kernel, by decide, kw_1306⟩
abbrev mX12_pair : gk_M := (yX12_pair, cX12_pair, 7, (some .int))
theorem kw_1255 : Cond.code yX12_pair prog_14_method_10_code 7 (some .int) ∈ gk_T := gk_in (t5k (List.mem_of_getElem? (i := 212) rfl)) rfl
theorem okX12_pair : gk_Ok mX12_pair 2 := ⟨⟨by decide +kernel, by decide +kernel, by decide +kernel⟩, by decide +kernel, by decide, kw_1255⟩
abbrev mX12_power : gk_M := (yX12_power, cX12_power, 7, (some .int))
theorem kw_1314 : Cond.code yX12_power prog_14_method_21_code 7 (some .int) ∈ gk_T := gk_in (t6k (List.mem_of_getElem? (i := 31) rfl)) rfl
theorem okX12_power : gk_Ok mX12_power 2 := ⟨⟨by decide +kernel, by decide +kernel, by decide +kernel⟩, by decide +kernel, by decide, kw_1314⟩
abbrev mX12_powerOf : gk_M := (yX12_powerOf, cX12_powerOf, 5, (some .int))
theorem kw_1318 : Cond.code yX12_powerOf prog_14_method_20_code 5 (some .int) ∈ gk_T := gk_in (t6k (List.mem_of_getElem? (i := 35) rfl)) rfl
theorem okX12_powerOf : gk_Ok mX12_powerOf 2 := ⟨⟨by decide +kernel, by decide +kernel, by decide +kernel⟩, by decide +kernel, by decide, kw_1318⟩
abbrev mX12_put : gk_M := (yX12_put, cX12_put, 5, (some .int))
theorem kw_1562 : Cond.code yX12_put prog_14_method_82_code 5 (some .int) ∈ gk_T := gk_in (t7k (List.mem_of_getElem? (i := 39) rfl)) rfl
theorem okX12_put : gk_Ok mX12_put 3 := ⟨⟨by decide +kernel, by decide +kernel, by decide +kernel⟩, by decide +kernel, by decide, kw_1562⟩
abbrev mX12_read : gk_M := (yX12_read, cX12_read, 3, (some .int))
theorem kw_1581 : Cond.code yX12_read prog_14_method_90_code 3 (some .int) ∈ gk_T := gk_in (t7k (List.mem_of_getElem? (i := 58) rfl)) rfl
theorem okX12_read : gk_Ok mX12_read 0 := ⟨⟨by decide +kernel, by decide +kernel, by decide +kernel⟩, by decide +kernel, by decide, kw_1581⟩
abbrev mX12_relabel : gk_M := (yX12_relabel, cX12_relabel, 6, (some .int))
theorem kw_1391 : Cond.code yX12_relabel prog_14_method_40_code 6 (some .int) ∈ gk_T := gk_in (t6k (List.mem_of_getElem? (i := 108) rfl)) rfl
theorem okX12_relabel : gk_Ok mX12_relabel 4 := ⟨⟨by decide +kernel, by decide +kernel, by decide +kernel⟩, by decide +kernel, by decide, kw_1391⟩
abbrev mX12_seeks : gk_M := (yX12_seeks, cX12_seeks, 7, (some .boolean))
theorem kw_1431 : Cond.code yX12_seeks prog_14_method_49_code 7 (some .boolean) ∈ gk_T := gk_in (t6k (List.mem_of_getElem? (i := 148) rfl)) rfl
theorem okX12_seeks : gk_Ok mX12_seeks 5 := ⟨⟨by decide +kernel, by decide +kernel, by decide +kernel⟩, by decide +kernel, by decide, kw_1431⟩
abbrev mX12_solved : gk_M := (yX12_solved, cX12_solved, 9, (some .int))
theorem kw_1330 : Cond.code yX12_solved prog_14_method_24_code 9 (some .int) ∈ gk_T := gk_in (t6k (List.mem_of_getElem? (i := 47) rfl)) rfl
theorem okX12_solved : gk_Ok mX12_solved 4 := ⟨⟨by decide +kernel, by decide +kernel, by decide +kernel⟩, by decide +kernel, by decide, kw_1330⟩
abbrev mX12_sound : gk_M := (yX12_sound, cX12_sound, 2, (some .int))
theorem kw_1403 : Cond.code yX12_sound prog_14_method_43_code 2 (some .int) ∈ gk_T := gk_in (t6k (List.mem_of_getElem? (i := 120) rfl)) rfl
theorem okX12_sound : gk_Ok mX12_sound 1 := ⟨⟨by decide +kernel, by decide +kernel, by decide +kernel⟩, by decide +kernel, by decide, kw_1403⟩
abbrev mX12_spelled : gk_M := (yX12_spelled, cX12_spelled, 2, (some .int))
theorem kw_1604 : Cond.code yX12_spelled prog_14_method_95_code 2 (some .int) ∈ gk_T := gk_in (t7k (List.mem_of_getElem? (i := 81) rfl)) rfl
theorem okX12_spelled : gk_Ok mX12_spelled 1 := ⟨⟨by decide +kernel, by decide +kernel, by decide +kernel⟩, by decide +kernel, by decide, kw_1604⟩
abbrev mX12_spells : gk_M := (yX12_spells, cX12_spells, 4, none)
theorem kw_1608 : Cond.code yX12_spells prog_14_method_94_code 4 none ∈ gk_T := gk_in (t7k (List.mem_of_getElem? (i := 85) rfl)) rfl
theorem okX12_spells : gk_Ok mX12_spells 0 := ⟨⟨by decide +kernel, by decide +kernel, by decide +kernel⟩, by decide +kernel, by decide, kw_1608⟩
abbrev mX12_statement : gk_M := (yX12_statement, cX12_statement, 3, (some .int))
theorem kw_1585 : Cond.code yX12_statement prog_14_method_88_code 3 (some .int) ∈ gk_T := gk_in (t7k (List.mem_of_getElem? (i := 62) rfl)) rfl
theorem okX12_statement : gk_Ok mX12_statement 0 := ⟨⟨by decide +kernel, by decide +kernel, by decide +kernel⟩, by decide +kernel, by decide, kw_1585⟩
abbrev mX12_take : gk_M := (yX12_take, cX12_take, 2, (some .int))
theorem kw_1527 : Cond.code yX12_take prog_14_method_73_code 2 (some .int) ∈ gk_T := gk_in (t7k (List.mem_of_getElem? (i := 4) rfl)) rfl
theorem okX12_take : gk_Ok mX12_take 1 := ⟨⟨by decide +kernel, by decide +kernel, by decide +kernel⟩, by decide +kernel, by decide, kw_1527⟩
abbrev mX12_triangle : gk_M := (yX12_triangle, cX12_triangle, 8, (some .int))
theorem kw_1278 : Cond.code yX12_triangle prog_14_method_14_code 8 (some .int) ∈ gk_T := gk_in (t5k (List.mem_of_getElem? (i := 235) rfl)) rfl
theorem okX12_triangle : gk_Ok mX12_triangle 4 := ⟨⟨by decide +kernel, by decide +kernel, by decide +kernel⟩, by decide +kernel, by decide, kw_1278⟩
abbrev mX12_turn : gk_M := (yX12_turn, cX12_turn, 5, (some .int))
theorem kw_1286 : Cond.code yX12_turn prog_14_method_13_code 5 (some .int) ∈ gk_T := gk_in (t6k (List.mem_of_getElem? (i := 3) rfl)) rfl
theorem okX12_turn : gk_Ok mX12_turn 4 := ⟨⟨by decide +kernel, by decide +kernel, by decide +kernel⟩, by decide +kernel, by decide, kw_1286⟩
abbrev mX12_turned : gk_M := (yX12_turned, cX12_turned, 4, (some .int))
theorem kw_1271 : Cond.code yX12_turned prog_14_method_11_code 4 (some .int) ∈ gk_T := gk_in (t5k (List.mem_of_getElem? (i := 228) rfl)) rfl
theorem okX12_turned : gk_Ok mX12_turned 1 := ⟨⟨by decide +kernel, by decide +kernel, by decide +kernel⟩, by decide +kernel, by decide, kw_1271⟩
abbrev mX12_undo : gk_M := (yX12_undo, cX12_undo, 2, (some .int))
theorem kw_1628 : Cond.code yX12_undo prog_14_method_97_code 2 (some .int) ∈ gk_T := gk_in (t7k (List.mem_of_getElem? (i := 105) rfl)) rfl
theorem okX12_undo : gk_Ok mX12_undo 0 := ⟨⟨by decide +kernel, by decide +kernel, by decide +kernel⟩, by decide +kernel, by decide, kw_1628⟩
abbrev mX12_unsound : gk_M := (yX12_unsound, cX12_unsound, 5, (some .int))
theorem kw_1407 : Cond.code yX12_unsound prog_14_method_42_code 5 (some .int) ∈ gk_T := gk_in (t6k (List.mem_of_getElem? (i := 124) rfl)) rfl
theorem okX12_unsound : gk_Ok mX12_unsound 1 := ⟨⟨by decide +kernel, by decide +kernel, by decide +kernel⟩, by decide +kernel, by decide, kw_1407⟩
abbrev mX12_whyNot : gk_M := (yX12_whyNot, cX12_whyNot, 3, (some .int))
theorem kw_1487 : Cond.code yX12_whyNot prog_14_method_63_code 3 (some .int) ∈ gk_T := gk_in (t6k (List.mem_of_getElem? (i := 204) rfl)) rfl
theorem okX12_whyNot : gk_Ok mX12_whyNot 2 := ⟨⟨by decide +kernel, by decide +kernel, by decide +kernel⟩, by decide +kernel, by decide, kw_1487⟩
abbrev mX12_wipe : gk_M := (yX12_wipe, cX12_wipe, 2, (some .int))
theorem kw_1577 : Cond.code yX12_wipe prog_14_method_85_code 2 (some .int) ∈ gk_T := gk_in (t7k (List.mem_of_getElem? (i := 54) rfl)) rfl
theorem okX12_wipe : gk_Ok mX12_wipe 0 := ⟨⟨by decide +kernel, by decide +kernel, by decide +kernel⟩, by decide +kernel, by decide, kw_1577⟩
abbrev mX12_won : gk_M := (yX12_won, cX12_won, 4, (some .int))
theorem kw_1483 : Cond.code yX12_won prog_14_method_64_code 4 (some .int) ∈ gk_T := gk_in (t6k (List.mem_of_getElem? (i := 200) rfl)) rfl
theorem okX12_won : gk_Ok mX12_won 2 := ⟨⟨by decide +kernel, by decide +kernel, by decide +kernel⟩, by decide +kernel, by decide, kw_1483⟩
abbrev mX12_word : gk_M := (yX12_word, cX12_word, 7, (some .int))
theorem kw_1589 : Cond.code yX12_word prog_14_method_87_code 7 (some .int) ∈ gk_T := gk_in (t7k (List.mem_of_getElem? (i := 66) rfl)) rfl
theorem okX12_word : gk_Ok mX12_word 0 := ⟨⟨by decide +kernel, by decide +kernel, by decide +kernel⟩, by decide +kernel, by decide, kw_1589⟩
abbrev mX12_writes : gk_M := (yX12_writes, cX12_writes, 2, none)
theorem kw_1616 : Cond.code yX12_writes prog_14_method_91_code 2 none ∈ gk_T := gk_in (t7k (List.mem_of_getElem? (i := 93) rfl)) rfl
theorem okX12_writes : gk_Ok mX12_writes 1 := ⟨⟨by decide +kernel, by decide +kernel, by decide +kernel⟩, by decide +kernel, by decide, kw_1616⟩
abbrev mX12_writesFigure : gk_M := (yX12_writesFigure, cX12_writesFigure, 2, none)
theorem kw_1620 : Cond.code yX12_writesFigure prog_14_method_93_code 2 none ∈ gk_T := gk_in (t7k (List.mem_of_getElem? (i := 97) rfl)) rfl
theorem okX12_writesFigure : gk_Ok mX12_writesFigure 1 := ⟨⟨by decide +kernel, by decide +kernel, by decide +kernel⟩, by decide +kernel, by decide, kw_1620⟩
abbrev mX12_writesWord : gk_M := (yX12_writesWord, cX12_writesWord, 4, none)
theorem kw_1612 : Cond.code yX12_writesWord prog_14_method_92_code 4 none ∈ gk_T := gk_in (t7k (List.mem_of_getElem? (i := 89) rfl)) rfl
theorem okX12_writesWord : gk_Ok mX12_writesWord 1 := ⟨⟨by decide +kernel, by decide +kernel, by decide +kernel⟩, by decide +kernel, by decide, kw_1612⟩
abbrev mX1_init : gk_M := (yX1_init, cX1_init, 3, none)
theorem kw_250 : Cond.code yX1_init prog_3_method_1_code 3 none ∈ gk_T := gk_in (t1k (List.mem_of_getElem? (i := 167) rfl)) rfl
theorem okX1_init : gk_Ok mX1_init 2 := ⟨⟨by decide +kernel, by decide +kernel, by decide +kernel⟩, by decide +kernel, by decide, kw_250⟩
abbrev mX1_isAllowed : gk_M := (yX1_isAllowed, cX1_isAllowed, 3, (some .boolean))
theorem kw_739 : Cond.code yX1_isAllowed prog_3_method_4_code 3 (some .boolean) ∈ gk_T := gk_in (t3k (List.mem_of_getElem? (i := 176) rfl)) rfl
theorem okX1_isAllowed : gk_Ok mX1_isAllowed 1 := ⟨⟨by decide +kernel, by decide +kernel, by decide +kernel⟩, by decide +kernel, by decide, kw_739⟩
abbrev mX1_isFilledBy : gk_M := (yX1_isFilledBy, cX1_isFilledBy, 5, (some .boolean))
theorem kw_875 : Cond.code yX1_isFilledBy prog_3_method_5_code 5 (some .boolean) ∈ gk_T := gk_in (t4k (List.mem_of_getElem? (i := 72) rfl)) rfl
theorem okX1_isFilledBy : gk_Ok mX1_isFilledBy 3 := ⟨⟨by decide +kernel, by decide +kernel, by decide +kernel⟩, by decide +kernel, by decide, kw_875⟩
abbrev mX1_spread : gk_M := (yX1_spread, cX1_spread, 5, (some .boolean))
theorem kw_600 : Cond.code yX1_spread prog_3_method_2_code 5 (some .boolean) ∈ gk_T := gk_in (t3k (List.mem_of_getElem? (i := 37) rfl)) rfl
theorem okX1_spread : gk_Ok mX1_spread 2 := ⟨⟨by decide +kernel, by decide +kernel, by decide +kernel⟩, by decide +kernel, by decide, kw_600⟩
abbrev mX1_way : gk_M := (yX1_way, cX1_way, 7, (some .int))
theorem kw_683 : Cond.code yX1_way prog_3_method_3_code 7 (some .int) ∈ gk_T := gk_in (t3k (List.mem_of_getElem? (i := 120) rfl)) rfl
theorem okX1_way : gk_Ok mX1_way 3 := ⟨⟨by decide +kernel, by decide +kernel, by decide +kernel⟩, by decide +kernel, by decide, kw_683⟩
abbrev mX2_answers : gk_M := (yX2_answers, cX2_answers, 6, (some .boolean))
theorem kw_823 : Cond.code yX2_answers prog_4_method_6_code 6 (some .boolean) ∈ gk_T := gk_in (t4k (List.mem_of_getElem? (i := 20) rfl)) rfl
theorem okX2_answers : gk_Ok mX2_answers 2 := ⟨⟨by decide +kernel, by decide +kernel, by decide +kernel⟩, by decide +kernel, by decide, kw_823⟩
abbrev mX2_findGaps : gk_M := (yX2_findGaps, cX2_findGaps, 4, none)
theorem kw_811 : Cond.code yX2_findGaps prog_4_method_4_code 4 none ∈ gk_T := gk_in (t4k (List.mem_of_getElem? (i := 8) rfl)) rfl
theorem okX2_findGaps : gk_Ok mX2_findGaps 1 := ⟨⟨by decide +kernel, by decide +kernel, by decide +kernel⟩, by decide +kernel, by decide, kw_811⟩
abbrev mX2_firstLeft : gk_M := (yX2_firstLeft, cX2_firstLeft, 5, (some .int))
theorem kw_842 : Cond.code yX2_firstLeft prog_4_method_9_code 5 (some .int) ∈ gk_T := gk_in (t4k (List.mem_of_getElem? (i := 39) rfl)) rfl
theorem okX2_firstLeft : gk_Ok mX2_firstLeft 1 := ⟨⟨by decide +kernel, by decide +kernel, by decide +kernel⟩, by decide +kernel, by decide, kw_842⟩
abbrev mX2_init : gk_M := (yX2_init, cX2_init, 4, none)
theorem kw_292 : Cond.code yX2_init prog_4_method_1_code 4 none ∈ gk_T := gk_in (t1k (List.mem_of_getElem? (i := 209) rfl)) rfl
theorem okX2_init : gk_Ok mX2_init 2 := ⟨⟨by decide +kernel, by decide +kernel, by decide +kernel⟩, by decide +kernel, by decide, kw_292⟩
abbrev mX2_isOpen : gk_M := (yX2_isOpen, cX2_isOpen, 4, (some .boolean))
theorem kw_817 : Cond.code yX2_isOpen prog_4_method_5_code 4 (some .boolean) ∈ gk_T := gk_in (t4k (List.mem_of_getElem? (i := 14) rfl)) rfl
theorem okX2_isOpen : gk_Ok mX2_isOpen 1 := ⟨⟨by decide +kernel, by decide +kernel, by decide +kernel⟩, by decide +kernel, by decide, kw_817⟩
abbrev mX2_isWon : gk_M := (yX2_isWon, cX2_isWon, 3, (some .boolean))
theorem kw_802 : Cond.code yX2_isWon prog_4_method_2_code 3 (some .boolean) ∈ gk_T := gk_in (t3k (List.mem_of_getElem? (i := 239) rfl)) rfl
theorem okX2_isWon : gk_Ok mX2_isWon 2 := ⟨⟨by decide +kernel, by decide +kernel, by decide +kernel⟩, by decide +kernel, by decide, kw_802⟩
abbrev mX2_outlives : gk_M := (yX2_outlives, cX2_outlives, 7, (some .boolean))
theorem kw_807 : Cond.code yX2_outlives prog_4_method_3_code 7 (some .boolean) ∈ gk_T := gk_in (t4k (List.mem_of_getElem? (i := 4) rfl)) rfl
theorem okX2_outlives : gk_Ok mX2_outlives 1 := ⟨⟨by decide +kernel, by decide +kernel, by decide +kernel⟩, by decide +kernel, by decide, kw_807⟩
abbrev mX2_stands : gk_M := (yX2_stands, cX2_stands, 4, (some .boolean))
theorem kw_827 : Cond.code yX2_stands prog_4_method_8_code 4 (some .boolean) ∈ gk_T := gk_in (t4k (List.mem_of_getElem? (i := 24) rfl)) rfl
theorem okX2_stands : gk_Ok mX2_stands 2 := ⟨⟨by decide +kernel, by decide +kernel, by decide +kernel⟩, by decide +kernel, by decide, kw_827⟩
abbrev mX2_strike : gk_M := (yX2_strike, cX2_strike, 6, none)
theorem kw_833 : Cond.code yX2_strike prog_4_method_7_code 6 none ∈ gk_T := gk_in (t4k (List.mem_of_getElem? (i := 30) rfl)) rfl
theorem okX2_strike : gk_Ok mX2_strike 2 := ⟨⟨by decide +kernel, by decide +kernel, by decide +kernel⟩, by decide +kernel, by decide, kw_833⟩
abbrev mX3_at : gk_M := (yX3_at, cX3_at, 3, (some .int))
theorem kw_624 : Cond.code yX3_at prog_5_method_2_code 3 (some .int) ∈ gk_T := gk_in (t3k (List.mem_of_getElem? (i := 61) rfl)) rfl
theorem okX3_at : gk_Ok mX3_at 2 := ⟨⟨by decide +kernel, by decide +kernel, by decide +kernel⟩, by decide +kernel, by decide, kw_624⟩
abbrev mX3_become : gk_M := (yX3_become, cX3_become, 3, none)
theorem kw_637 : Cond.code yX3_become prog_5_method_4_code 3 none ∈ gk_T := gk_in (t3k (List.mem_of_getElem? (i := 74) rfl)) rfl
theorem okX3_become : gk_Ok mX3_become 1 := ⟨⟨by decide +kernel, by decide +kernel, by decide +kernel⟩, by decide +kernel, by decide, kw_637⟩
abbrev mX3_gapAt : gk_M := (yX3_gapAt, cX3_gapAt, 8, (some .int))
theorem kw_655 : Cond.code yX3_gapAt prog_5_method_9_code 8 (some .int) ∈ gk_T := gk_in (t3k (List.mem_of_getElem? (i := 92) rfl)) rfl
theorem okX3_gapAt : gk_Ok mX3_gapAt 2 := ⟨⟨by decide +kernel, by decide +kernel, by decide +kernel⟩, by decide +kernel, by decide, kw_655⟩
abbrev mX3_gapNumber : gk_M := (yX3_gapNumber, cX3_gapNumber, 3, (some .int))
theorem kw_671 : Cond.code yX3_gapNumber prog_5_method_8_code 3 (some .int) ∈ gk_T := gk_in (t3k (List.mem_of_getElem? (i := 108) rfl)) rfl
theorem okX3_gapNumber : gk_Ok mX3_gapNumber 3 := ⟨⟨by decide +kernel, by decide +kernel, by decide +kernel⟩, by decide +kernel, by decide, kw_671⟩
abbrev mX3_grow : gk_M := (yX3_grow, cX3_grow, 4, none)
theorem kw_604 : Cond.code yX3_grow prog_5_method_5_code 4 none ∈ gk_T := gk_in (t3k (List.mem_of_getElem? (i := 41) rfl)) rfl
theorem okX3_grow : gk_Ok mX3_grow 2 := ⟨⟨by decide +kernel, by decide +kernel, by decide +kernel⟩, by decide +kernel, by decide, kw_604⟩
abbrev mX3_init : gk_M := (yX3_init, cX3_init, 1, none)
theorem kw_163 : Cond.code yX3_init prog_5_method_1_code 1 none ∈ gk_T := gk_in (t1k (List.mem_of_getElem? (i := 80) rfl)) rfl
theorem okX3_init : gk_Ok mX3_init 0 := ⟨⟨by decide +kernel, by decide +kernel, by decide +kernel⟩, by decide +kernel, by decide, kw_163⟩
abbrev mX3_lacks : gk_M := (yX3_lacks, cX3_lacks, 7, (some .boolean))
theorem kw_679 : Cond.code yX3_lacks prog_5_method_11_code 7 (some .boolean) ∈ gk_T := gk_in (t3k (List.mem_of_getElem? (i := 116) rfl)) rfl
theorem okX3_lacks : gk_Ok mX3_lacks 2 := ⟨⟨by decide +kernel, by decide +kernel, by decide +kernel⟩, by decide +kernel, by decide, kw_679⟩
abbrev mX3_link : gk_M := (yX3_link, cX3_link, 5, none)
theorem kw_608 : Cond.code yX3_link prog_5_method_3_code 5 none ∈ gk_T := gk_in (t3k (List.mem_of_getElem? (i := 45) rfl)) rfl
theorem okX3_link : gk_Ok mX3_link 4 := ⟨⟨by decide +kernel, by decide +kernel, by decide +kernel⟩, by decide +kernel, by decide, kw_608⟩
abbrev mX3_open : gk_M := (yX3_open, cX3_open, 8, (some .int))
theorem kw_659 : Cond.code yX3_open prog_5_method_7_code 8 (some .int) ∈ gk_T := gk_in (t3k (List.mem_of_getElem? (i := 96) rfl)) rfl
theorem okX3_open : gk_Ok mX3_open 3 := ⟨⟨by decide +kernel, by decide +kernel, by decide +kernel⟩, by decide +kernel, by decide, kw_659⟩
abbrev mX3_placeOf : gk_M := (yX3_placeOf, cX3_placeOf, 4, (some .int))
theorem kw_668 : Cond.code yX3_placeOf prog_5_method_10_code 4 (some .int) ∈ gk_T := gk_in (t3k (List.mem_of_getElem? (i := 105) rfl)) rfl
theorem okX3_placeOf : gk_Ok mX3_placeOf 2 := ⟨⟨by decide +kernel, by decide +kernel, by decide +kernel⟩, by decide +kernel, by decide, kw_668⟩
abbrev mX3_unsound : gk_M := (yX3_unsound, cX3_unsound, 5, (some .int))
theorem kw_645 : Cond.code yX3_unsound prog_5_method_6_code 5 (some .int) ∈ gk_T := gk_in (t3k (List.mem_of_getElem? (i := 82) rfl)) rfl
theorem okX3_unsound : gk_Ok mX3_unsound 1 := ⟨⟨by decide +kernel, by decide +kernel, by decide +kernel⟩, by decide +kernel, by decide, kw_645⟩
abbrev mX4_clash : gk_M := (yX4_clash, cX4_clash, 5, (some .int))
theorem kw_717 : Cond.code yX4_clash prog_6_method_5_code 5 (some .int) ∈ gk_T := gk_in (t3k (List.mem_of_getElem? (i := 154) rfl)) rfl
theorem okX4_clash : gk_Ok mX4_clash 1 := ⟨⟨by decide +kernel, by decide +kernel, by decide +kernel⟩, by decide +kernel, by decide, kw_717⟩
abbrev mX4_init : gk_M := (yX4_init, cX4_init, 2, none)
theorem kw_205 : Cond.code yX4_init prog_6_method_1_code 2 none ∈ gk_T := gk_in (t1k (List.mem_of_getElem? (i := 122) rfl)) rfl
theorem okX4_init : gk_Ok mX4_init 1 := ⟨⟨by decide +kernel, by decide +kernel, by decide +kernel⟩, by decide +kernel, by decide, kw_205⟩
abbrev mX4_isBarred : gk_M := (yX4_isBarred, cX4_isBarred, 3, (some .boolean))
theorem kw_744 : Cond.code yX4_isBarred prog_6_method_3_code 3 (some .boolean) ∈ gk_T := gk_in (t3k (List.mem_of_getElem? (i := 181) rfl)) rfl
theorem okX4_isBarred : gk_Ok mX4_isBarred 1 := ⟨⟨by decide +kernel, by decide +kernel, by decide +kernel⟩, by decide +kernel, by decide, kw_744⟩
abbrev mX4_look : gk_M := (yX4_look, cX4_look, 3, none)
theorem kw_748 : Cond.code yX4_look prog_6_method_4_code 3 none ∈ gk_T := gk_in (t3k (List.mem_of_getElem? (i := 185) rfl)) rfl
theorem okX4_look : gk_Ok mX4_look 2 := ⟨⟨by decide +kernel, by decide +kernel, by decide +kernel⟩, by decide +kernel, by decide, kw_748⟩
abbrev mX4_way : gk_M := (yX4_way, cX4_way, 7, (some .int))
theorem kw_774 : Cond.code yX4_way prog_6_method_2_code 7 (some .int) ∈ gk_T := gk_in (t3k (List.mem_of_getElem? (i := 211) rfl)) rfl
theorem okX4_way : gk_Ok mX4_way 3 := ⟨⟨by decide +kernel, by decide +kernel, by decide +kernel⟩, by decide +kernel, by decide, kw_774⟩
abbrev mX5_clash : gk_M := (yX5_clash, cX5_clash, 5, (some .int))
theorem kw_720 : Cond.code yX5_clash prog_7_method_7_code 5 (some .int) ∈ gk_T := gk_in (t3k (List.mem_of_getElem? (i := 157) rfl)) rfl
theorem okX5_clash : gk_Ok mX5_clash 1 := ⟨⟨by decide +kernel, by decide +kernel, by decide +kernel⟩, by decide +kernel, by decide, kw_720⟩
abbrev mX5_goes : gk_M := (yX5_goes, cX5_goes, 5, (some .boolean))
theorem kw_724 : Cond.code yX5_goes prog_7_method_8_code 5 (some .boolean) ∈ gk_T := gk_in (t3k (List.mem_of_getElem? (i := 161) rfl)) rfl
theorem okX5_goes : gk_Ok mX5_goes 1 := ⟨⟨by decide +kernel, by decide +kernel, by decide +kernel⟩, by decide +kernel, by decide, kw_724⟩
abbrev mX5_init : gk_M := (yX5_init, cX5_init, 2, none)
theorem kw_353 : Cond.code yX5_init prog_7_method_1_code 2 none ∈ gk_T := gk_in (t2k (List.mem_of_getElem? (i := 30) rfl)) rfl
theorem okX5_init : gk_Ok mX5_init 1 := ⟨⟨by decide +kernel, by decide +kernel, by decide +kernel⟩, by decide +kernel, by decide, kw_353⟩
abbrev mX5_isFull : gk_M := (yX5_isFull, cX5_isFull, 3, (some .boolean))
theorem kw_919 : Cond.code yX5_isFull prog_7_method_3_code 3 (some .boolean) ∈ gk_T := gk_in (t4k (List.mem_of_getElem? (i := 116) rfl)) rfl
theorem okX5_isFull : gk_Ok mX5_isFull 0 := ⟨⟨by decide +kernel, by decide +kernel, by decide +kernel⟩, by decide +kernel, by decide, kw_919⟩
abbrev mX5_misfit : gk_M := (yX5_misfit, cX5_misfit, 4, (some .int))
theorem kw_932 : Cond.code yX5_misfit prog_7_method_5_code 4 (some .int) ∈ gk_T := gk_in (t4k (List.mem_of_getElem? (i := 129) rfl)) rfl
theorem okX5_misfit : gk_Ok mX5_misfit 0 := ⟨⟨by decide +kernel, by decide +kernel, by decide +kernel⟩, by decide +kernel, by decide, kw_932⟩
abbrev mX5_readDue : gk_M := (yX5_readDue, cX5_readDue, 2, none)
theorem kw_924 : Cond.code yX5_readDue prog_7_method_4_code 2 none ∈ gk_T := gk_in (t4k (List.mem_of_getElem? (i := 121) rfl)) rfl
theorem okX5_readDue : gk_Ok mX5_readDue 0 := ⟨⟨by decide +kernel, by decide +kernel, by decide +kernel⟩, by decide +kernel, by decide, kw_924⟩
abbrev mX5_search : gk_M := (yX5_search, cX5_search, 4, (some .int))
theorem kw_940 : Cond.code yX5_search prog_7_method_6_code 4 (some .int) ∈ gk_T := gk_in (t4k (List.mem_of_getElem? (i := 137) rfl)) rfl
theorem okX5_search : gk_Ok mX5_search 0 := ⟨⟨by decide +kernel, by decide +kernel, by decide +kernel⟩, by decide +kernel, by decide, kw_940⟩
abbrev mX5_verdict : gk_M := (yX5_verdict, cX5_verdict, 7, (some .int))
theorem kw_915 : Cond.code yX5_verdict prog_7_method_2_code 7 (some .int) ∈ gk_T := gk_in (t4k (List.mem_of_getElem? (i := 112) rfl)) rfl
theorem okX5_verdict : gk_Ok mX5_verdict 3 := ⟨⟨by decide +kernel, by decide +kernel, by decide +kernel⟩, by decide +kernel, by decide, kw_915⟩
abbrev mX6_clash : gk_M := (yX6_clash, cX6_clash, 4, (some .int))
theorem kw_728 : Cond.code yX6_clash prog_8_method_3_code 4 (some .int) ∈ gk_T := gk_in (t3k (List.mem_of_getElem? (i := 165) rfl)) rfl
theorem okX6_clash : gk_Ok mX6_clash 1 := ⟨⟨by decide +kernel, by decide +kernel, by decide +kernel⟩, by decide +kernel, by decide, kw_728⟩
abbrev mX6_init : gk_M := (yX6_init, cX6_init, 3, none)
theorem kw_258 : Cond.code yX6_init prog_8_method_1_code 3 none ∈ gk_T := gk_in (t1k (List.mem_of_getElem? (i := 175) rfl)) rfl
theorem okX6_init : gk_Ok mX6_init 2 := ⟨⟨by decide +kernel, by decide +kernel, by decide +kernel⟩, by decide +kernel, by decide, kw_258⟩
abbrev mX6_spanAll : gk_M := (yX6_spanAll, cX6_spanAll, 1, none)
theorem kw_688 : Cond.code yX6_spanAll prog_8_method_2_code 1 none ∈ gk_T := gk_in (t3k (List.mem_of_getElem? (i := 125) rfl)) rfl
theorem okX6_spanAll : gk_Ok mX6_spanAll 0 := ⟨⟨by decide +kernel, by decide +kernel, by decide +kernel⟩, by decide +kernel, by decide, kw_688⟩
abbrev mX7_become : gk_M := (yX7_become, cX7_become, 3, none)
theorem kw_1111 : Cond.code yX7_become prog_9_method_3_code 3 none ∈ gk_T := gk_in (t5k (List.mem_of_getElem? (i := 68) rfl)) rfl
theorem okX7_become : gk_Ok mX7_become 1 := ⟨⟨by decide +kernel, by decide +kernel, by decide +kernel⟩, by decide +kernel, by decide, kw_1111⟩
abbrev mX7_clearNets : gk_M := (yX7_clearNets, cX7_clearNets, 2, none)
theorem kw_439 : Cond.code yX7_clearNets prog_9_method_2_code 2 none ∈ gk_T := gk_in (t2k (List.mem_of_getElem? (i := 116) rfl)) rfl
theorem okX7_clearNets : gk_Ok mX7_clearNets 0 := ⟨⟨by decide +kernel, by decide +kernel, by decide +kernel⟩, by decide +kernel, by decide, kw_439⟩
abbrev mX7_init : gk_M := (yX7_init, cX7_init, 2, none)
theorem kw_116 : Cond.code yX7_init prog_9_method_1_code 2 none ∈ gk_T := gk_in (t1k (List.mem_of_getElem? (i := 33) rfl)) rfl
theorem okX7_init : gk_Ok mX7_init 0 := ⟨⟨by decide +kernel, by decide +kernel, by decide +kernel⟩, by decide +kernel, by decide, kw_116⟩
abbrev mX8_become : gk_M := (yX8_become, cX8_become, 3, none)
theorem kw_1115 : Cond.code yX8_become prog_10_method_3_code 3 none ∈ gk_T := gk_in (t5k (List.mem_of_getElem? (i := 72) rfl)) rfl
theorem okX8_become : gk_Ok mX8_become 1 := ⟨⟨by decide +kernel, by decide +kernel, by decide +kernel⟩, by decide +kernel, by decide, kw_1115⟩
abbrev mX8_bit : gk_M := (yX8_bit, cX8_bit, 3, (some .long))
theorem kw_134 : Cond.code yX8_bit prog_10_method_8_code 3 (some .long) ∈ gk_T := gk_in (t1k (List.mem_of_getElem? (i := 51) rfl)) rfl
theorem okX8_bit : gk_Ok mX8_bit 3 := ⟨⟨by decide +kernel, by decide +kernel, by decide +kernel⟩, by decide +kernel, by decide, kw_134⟩
abbrev mX8_couple : gk_M := (yX8_couple, cX8_couple, 3, none)
theorem kw_451 : Cond.code yX8_couple prog_10_method_4_code 3 none ∈ gk_T := gk_in (t2k (List.mem_of_getElem? (i := 128) rfl)) rfl
theorem okX8_couple : gk_Ok mX8_couple 2 := ⟨⟨by decide +kernel, by decide +kernel, by decide +kernel⟩, by decide +kernel, by decide, kw_451⟩
abbrev mX8_coupled : gk_M := (yX8_coupled, cX8_coupled, 3, (some .int))
theorem kw_459 : Cond.code yX8_coupled prog_10_method_7_code 3 (some .int) ∈ gk_T := gk_in (t2k (List.mem_of_getElem? (i := 136) rfl)) rfl
theorem okX8_coupled : gk_Ok mX8_coupled 0 := ⟨⟨by decide +kernel, by decide +kernel, by decide +kernel⟩, by decide +kernel, by decide, kw_459⟩
abbrev mX8_cycleFacts : gk_M := (yX8_cycleFacts, cX8_cycleFacts, 8, (some .int))
theorem kw_581 : Cond.code yX8_cycleFacts prog_10_method_24_code 8 (some .int) ∈ gk_T := gk_in (t3k (List.mem_of_getElem? (i := 18) rfl)) rfl
theorem okX8_cycleFacts : gk_Ok mX8_cycleFacts 1 := ⟨⟨by decide +kernel, by decide +kernel, by decide +kernel⟩, by decide +kernel, by decide, kw_581⟩
abbrev mX8_free : gk_M := (yX8_free, cX8_free, 3, none)
theorem kw_455 : Cond.code yX8_free prog_10_method_5_code 3 none ∈ gk_T := gk_in (t2k (List.mem_of_getElem? (i := 132) rfl)) rfl
theorem okX8_free : gk_Ok mX8_free 1 := ⟨⟨by decide +kernel, by decide +kernel, by decide +kernel⟩, by decide +kernel, by decide, kw_455⟩
abbrev mX8_has : gk_M := (yX8_has, cX8_has, 4, (some .boolean))
theorem kw_506 : Cond.code yX8_has prog_10_method_9_code 4 (some .boolean) ∈ gk_T := gk_in (t2k (List.mem_of_getElem? (i := 183) rfl)) rfl
theorem okX8_has : gk_Ok mX8_has 3 := ⟨⟨by decide +kernel, by decide +kernel, by decide +kernel⟩, by decide +kernel, by decide, kw_506⟩
abbrev mX8_init : gk_M := (yX8_init, cX8_init, 1, none)
theorem kw_122 : Cond.code yX8_init prog_10_method_1_code 1 none ∈ gk_T := gk_in (t1k (List.mem_of_getElem? (i := 39) rfl)) rfl
theorem okX8_init : gk_Ok mX8_init 0 := ⟨⟨by decide +kernel, by decide +kernel, by decide +kernel⟩, by decide +kernel, by decide, kw_122⟩
abbrev mX8_isEquivalence : gk_M := (yX8_isEquivalence, cX8_isEquivalence, 2, (some .boolean))
theorem kw_547 : Cond.code yX8_isEquivalence prog_10_method_18_code 2 (some .boolean) ∈ gk_T := gk_in (t2k (List.mem_of_getElem? (i := 224) rfl)) rfl
theorem okX8_isEquivalence : gk_Ok mX8_isEquivalence 1 := ⟨⟨by decide +kernel, by decide +kernel, by decide +kernel⟩, by decide +kernel, by decide, kw_547⟩
abbrev mX8_isLeastTurn : gk_M := (yX8_isLeastTurn, cX8_isLeastTurn, 6, (some .boolean))
theorem kw_585 : Cond.code yX8_isLeastTurn prog_10_method_23_code 6 (some .boolean) ∈ gk_T := gk_in (t3k (List.mem_of_getElem? (i := 22) rfl)) rfl
theorem okX8_isLeastTurn : gk_Ok mX8_isLeastTurn 3 := ⟨⟨by decide +kernel, by decide +kernel, by decide +kernel⟩, by decide +kernel, by decide, kw_585⟩
abbrev mX8_isUnbalanced : gk_M := (yX8_isUnbalanced, cX8_isUnbalanced, 5, (some .boolean))
theorem kw_568 : Cond.code yX8_isUnbalanced prog_10_method_20_code 5 (some .boolean) ∈ gk_T := gk_in (t3k (List.mem_of_getElem? (i := 5) rfl)) rfl
theorem okX8_isUnbalanced : gk_Ok mX8_isUnbalanced 3 := ⟨⟨by decide +kernel, by decide +kernel, by decide +kernel⟩, by decide +kernel, by decide, kw_568⟩
abbrev mX8_keepFixed : gk_M := (yX8_keepFixed, cX8_keepFixed, 2, none)
theorem kw_131 : Cond.code yX8_keepFixed prog_10_method_6_code 2 none ∈ gk_T := gk_in (t1k (List.mem_of_getElem? (i := 48) rfl)) rfl
theorem okX8_keepFixed : gk_Ok mX8_keepFixed 0 := ⟨⟨by decide +kernel, by decide +kernel, by decide +kernel⟩, by decide +kernel, by decide, kw_131⟩
abbrev mX8_mark : gk_M := (yX8_mark, cX8_mark, 9, (some .int))
theorem kw_487 : Cond.code yX8_mark prog_10_method_11_code 9 (some .int) ∈ gk_T := gk_in (t2k (List.mem_of_getElem? (i := 164) rfl)) rfl
theorem okX8_mark : gk_Ok mX8_mark 4 := ⟨⟨by decide +kernel, by decide +kernel, by decide +kernel⟩, by decide +kernel, by decide, kw_487⟩
abbrev mX8_mirrored : gk_M := (yX8_mirrored, cX8_mirrored, 4, (some .int))
theorem kw_475 : Cond.code yX8_mirrored prog_10_method_13_code 4 (some .int) ∈ gk_T := gk_in (t2k (List.mem_of_getElem? (i := 152) rfl)) rfl
theorem okX8_mirrored : gk_Ok mX8_mirrored 1 := ⟨⟨by decide +kernel, by decide +kernel, by decide +kernel⟩, by decide +kernel, by decide, kw_475⟩
abbrev mX8_pairsInto : gk_M := (yX8_pairsInto, cX8_pairsInto, 5, (some .int))
theorem kw_928 : Cond.code yX8_pairsInto prog_10_method_25_code 5 (some .int) ∈ gk_T := gk_in (t4k (List.mem_of_getElem? (i := 125) rfl)) rfl
theorem okX8_pairsInto : gk_Ok mX8_pairsInto 1 := ⟨⟨by decide +kernel, by decide +kernel, by decide +kernel⟩, by decide +kernel, by decide, kw_928⟩
abbrev mX8_powers : gk_M := (yX8_powers, cX8_powers, 8, (some .int))
theorem kw_538 : Cond.code yX8_powers prog_10_method_17_code 8 (some .int) ∈ gk_T := gk_in (t2k (List.mem_of_getElem? (i := 215) rfl)) rfl
theorem okX8_powers : gk_Ok mX8_powers 2 := ⟨⟨by decide +kernel, by decide +kernel, by decide +kernel⟩, by decide +kernel, by decide, kw_538⟩
abbrev mX8_product : gk_M := (yX8_product, cX8_product, 6, (some .int))
theorem kw_514 : Cond.code yX8_product prog_10_method_14_code 6 (some .int) ∈ gk_T := gk_in (t2k (List.mem_of_getElem? (i := 191) rfl)) rfl
theorem okX8_product : gk_Ok mX8_product 2 := ⟨⟨by decide +kernel, by decide +kernel, by decide +kernel⟩, by decide +kernel, by decide, kw_514⟩
abbrev mX8_relations : gk_M := (yX8_relations, cX8_relations, 1, (some .int))
theorem kw_471 : Cond.code yX8_relations prog_10_method_12_code 1 (some .int) ∈ gk_T := gk_in (t2k (List.mem_of_getElem? (i := 148) rfl)) rfl
theorem okX8_relations : gk_Ok mX8_relations 0 := ⟨⟨by decide +kernel, by decide +kernel, by decide +kernel⟩, by decide +kernel, by decide, kw_471⟩
abbrev mX8_residual : gk_M := (yX8_residual, cX8_residual, 6, (some .int))
theorem kw_525 : Cond.code yX8_residual prog_10_method_16_code 6 (some .int) ∈ gk_T := gk_in (t2k (List.mem_of_getElem? (i := 202) rfl)) rfl
theorem okX8_residual : gk_Ok mX8_residual 3 := ⟨⟨by decide +kernel, by decide +kernel, by decide +kernel⟩, by decide +kernel, by decide, kw_525⟩
abbrev mX8_restart : gk_M := (yX8_restart, cX8_restart, 3, none)
theorem kw_127 : Cond.code yX8_restart prog_10_method_2_code 3 none ∈ gk_T := gk_in (t1k (List.mem_of_getElem? (i := 44) rfl)) rfl
theorem okX8_restart : gk_Ok mX8_restart 1 := ⟨⟨by decide +kernel, by decide +kernel, by decide +kernel⟩, by decide +kernel, by decide, kw_127⟩
abbrev mX8_sided : gk_M := (yX8_sided, cX8_sided, 4, (some .int))
theorem kw_529 : Cond.code yX8_sided prog_10_method_15_code 4 (some .int) ∈ gk_T := gk_in (t2k (List.mem_of_getElem? (i := 206) rfl)) rfl
theorem okX8_sided : gk_Ok mX8_sided 3 := ⟨⟨by decide +kernel, by decide +kernel, by decide +kernel⟩, by decide +kernel, by decide, kw_529⟩
abbrev mX8_solutions : gk_M := (yX8_solutions, cX8_solutions, 9, (some .int))
theorem kw_556 : Cond.code yX8_solutions prog_10_method_19_code 9 (some .int) ∈ gk_T := gk_in (t2k (List.mem_of_getElem? (i := 233) rfl)) rfl
theorem okX8_solutions : gk_Ok mX8_solutions 4 := ⟨⟨by decide +kernel, by decide +kernel, by decide +kernel⟩, by decide +kernel, by decide, kw_556⟩
abbrev mX8_thin : gk_M := (yX8_thin, cX8_thin, 5, (some .int))
theorem kw_572 : Cond.code yX8_thin prog_10_method_22_code 5 (some .int) ∈ gk_T := gk_in (t3k (List.mem_of_getElem? (i := 9) rfl)) rfl
theorem okX8_thin : gk_Ok mX8_thin 1 := ⟨⟨by decide +kernel, by decide +kernel, by decide +kernel⟩, by decide +kernel, by decide, kw_572⟩
abbrev mX8_turns : gk_M := (yX8_turns, cX8_turns, 7, (some .long))
theorem kw_491 : Cond.code yX8_turns prog_10_method_10_code 7 (some .long) ∈ gk_T := gk_in (t2k (List.mem_of_getElem? (i := 168) rfl)) rfl
theorem okX8_turns : gk_Ok mX8_turns 3 := ⟨⟨by decide +kernel, by decide +kernel, by decide +kernel⟩, by decide +kernel, by decide, kw_491⟩
abbrev mX8_unbalanced : gk_M := (yX8_unbalanced, cX8_unbalanced, 6, (some .int))
theorem kw_564 : Cond.code yX8_unbalanced prog_10_method_21_code 6 (some .int) ∈ gk_T := gk_in (t3k (List.mem_of_getElem? (i := 1) rfl)) rfl
theorem okX8_unbalanced : gk_Ok mX8_unbalanced 1 := ⟨⟨by decide +kernel, by decide +kernel, by decide +kernel⟩, by decide +kernel, by decide, kw_564⟩
abbrev mX9_append : gk_M := (yX9_append, cX9_append, 2, none)
theorem kw_972 : Cond.code yX9_append prog_11_method_2_code 2 none ∈ gk_T := gk_in (t4k (List.mem_of_getElem? (i := 169) rfl)) rfl
theorem okX9_append : gk_Ok mX9_append 1 := ⟨⟨by decide +kernel, by decide +kernel, by decide +kernel⟩, by decide +kernel, by decide, kw_972⟩
abbrev mX9_faultPlace : gk_M := (yX9_faultPlace, cX9_faultPlace, 7, (some .int))
theorem kw_984 : Cond.code yX9_faultPlace prog_11_method_3_code 7 (some .int) ∈ gk_T := gk_in (t4k (List.mem_of_getElem? (i := 181) rfl)) rfl
theorem okX9_faultPlace : gk_Ok mX9_faultPlace 0 := ⟨⟨by decide +kernel, by decide +kernel, by decide +kernel⟩, by decide +kernel, by decide, kw_984⟩
abbrev mX9_figure : gk_M := (yX9_figure, cX9_figure, 2, (some .int))
theorem kw_1074 : Cond.code yX9_figure prog_11_method_10_code 2 (some .int) ∈ gk_T := gk_in (t5k (List.mem_of_getElem? (i := 31) rfl)) rfl
theorem okX9_figure : gk_Ok mX9_figure 1 := ⟨⟨by decide +kernel, by decide +kernel, by decide +kernel⟩, by decide +kernel, by decide, kw_1074⟩
abbrev mX9_figuresOf : gk_M := (yX9_figuresOf, cX9_figuresOf, 2, (some .int))
theorem kw_1052 : Cond.code yX9_figuresOf prog_11_method_9_code 2 (some .int) ∈ gk_T := gk_in (t5k (List.mem_of_getElem? (i := 9) rfl)) rfl
theorem okX9_figuresOf : gk_Ok mX9_figuresOf 1 := ⟨⟨by decide +kernel, by decide +kernel, by decide +kernel⟩, by decide +kernel, by decide, kw_1052⟩
abbrev mX9_goodFigures : gk_M := (yX9_goodFigures, cX9_goodFigures, 4, (some .int))
theorem kw_1056 : Cond.code yX9_goodFigures prog_11_method_4_code 4 (some .int) ∈ gk_T := gk_in (t5k (List.mem_of_getElem? (i := 13) rfl)) rfl
theorem okX9_goodFigures : gk_Ok mX9_goodFigures 2 := ⟨⟨by decide +kernel, by decide +kernel, by decide +kernel⟩, by decide +kernel, by decide, kw_1056⟩
abbrev mX9_init : gk_M := (yX9_init, cX9_init, 1, none)
theorem kw_377 : Cond.code yX9_init prog_11_method_1_code 1 none ∈ gk_T := gk_in (t2k (List.mem_of_getElem? (i := 54) rfl)) rfl
theorem okX9_init : gk_Ok mX9_init 0 := ⟨⟨by decide +kernel, by decide +kernel, by decide +kernel⟩, by decide +kernel, by decide, kw_377⟩
abbrev mX9_isDue : gk_M := (yX9_isDue, cX9_isDue, 4, (some .boolean))
theorem kw_1060 : Cond.code yX9_isDue prog_11_method_5_code 4 (some .boolean) ∈ gk_T := gk_in (t5k (List.mem_of_getElem? (i := 17) rfl)) rfl
theorem okX9_isDue : gk_Ok mX9_isDue 2 := ⟨⟨by decide +kernel, by decide +kernel, by decide +kernel⟩, by decide +kernel, by decide, kw_1060⟩
abbrev mX9_isWord : gk_M := (yX9_isWord, cX9_isWord, 5, (some .boolean))
theorem kw_997 : Cond.code yX9_isWord prog_11_method_8_code 5 (some .boolean) ∈ gk_T := gk_in (t4k (List.mem_of_getElem? (i := 194) rfl)) rfl
theorem okX9_isWord : gk_Ok mX9_isWord 3 := ⟨⟨by decide +kernel, by decide +kernel, by decide +kernel⟩, by decide +kernel, by decide, kw_997⟩
abbrev mX9_spell : gk_M := (yX9_spell, cX9_spell, 5, none)
theorem kw_1086 : Cond.code yX9_spell prog_11_method_11_code 5 none ∈ gk_T := gk_in (t5k (List.mem_of_getElem? (i := 43) rfl)) rfl
theorem okX9_spell : gk_Ok mX9_spell 1 := ⟨⟨by decide +kernel, by decide +kernel, by decide +kernel⟩, by decide +kernel, by decide, kw_1086⟩
abbrev mX9_wordEnd : gk_M := (yX9_wordEnd, cX9_wordEnd, 3, (some .int))
theorem kw_988 : Cond.code yX9_wordEnd prog_11_method_6_code 3 (some .int) ∈ gk_T := gk_in (t4k (List.mem_of_getElem? (i := 185) rfl)) rfl
theorem okX9_wordEnd : gk_Ok mX9_wordEnd 1 := ⟨⟨by decide +kernel, by decide +kernel, by decide +kernel⟩, by decide +kernel, by decide, kw_988⟩
abbrev mX9_wordKind : gk_M := (yX9_wordKind, cX9_wordKind, 3, (some .int))
theorem kw_992 : Cond.code yX9_wordKind prog_11_method_7_code 3 (some .int) ∈ gk_T := gk_in (t4k (List.mem_of_getElem? (i := 189) rfl)) rfl
theorem okX9_wordKind : gk_Ok mX9_wordKind 2 := ⟨⟨by decide +kernel, by decide +kernel, by decide +kernel⟩, by decide +kernel, by decide, kw_992⟩
abbrev mX9_writeFigure : gk_M := (yX9_writeFigure, cX9_writeFigure, 2, none)
theorem kw_1095 : Cond.code yX9_writeFigure prog_11_method_14_code 2 none ∈ gk_T := gk_in (t5k (List.mem_of_getElem? (i := 52) rfl)) rfl
theorem okX9_writeFigure : gk_Ok mX9_writeFigure 1 := ⟨⟨by decide +kernel, by decide +kernel, by decide +kernel⟩, by decide +kernel, by decide, kw_1095⟩
abbrev mX9_writeThree : gk_M := (yX9_writeThree, cX9_writeThree, 4, none)
theorem kw_1102 : Cond.code yX9_writeThree prog_11_method_12_code 4 none ∈ gk_T := gk_in (t5k (List.mem_of_getElem? (i := 59) rfl)) rfl
theorem okX9_writeThree : gk_Ok mX9_writeThree 3 := ⟨⟨by decide +kernel, by decide +kernel, by decide +kernel⟩, by decide +kernel, by decide, kw_1102⟩
abbrev mX9_writeWord : gk_M := (yX9_writeWord, cX9_writeWord, 3, none)
theorem kw_1090 : Cond.code yX9_writeWord prog_11_method_13_code 3 none ∈ gk_T := gk_in (t5k (List.mem_of_getElem? (i := 47) rfl)) rfl
theorem okX9_writeWord : gk_Ok mX9_writeWord 1 := ⟨⟨by decide +kernel, by decide +kernel, by decide +kernel⟩, by decide +kernel, by decide, kw_1090⟩
abbrev mL_law : gk_M := (x, code, 4, some .boolean)
theorem kw_390 : Cond.fieldLink "AtomTables" 12 "AtomTables" "now" "LAtomTables$Sheet;" ∈ gk_T := gk_in (t2k (List.mem_of_getElem? (i := 67) rfl)) rfl
theorem fX11_12_10 : gk_Fg RX11 12 10 0 := ⟨RX11, TX11, 12, "AtomTables", gclX11, by decide, kw_390, Or.inl rfl⟩
theorem fX11_12_10w : gk_Fl RX11 12 10 0 (tyX11 0) true := ⟨RX11, TX11, 12, "AtomTables", gclX11, by decide, kw_390, Or.inl rfl, tyX11_ok 0 (by decide), rfl, fun _ => rfl⟩
theorem kw_391 : Cond.fieldLink "AtomTables" 18 "AtomTables" "kept" "LAtomTables$Sheet;" ∈ gk_T := gk_in (t2k (List.mem_of_getElem? (i := 68) rfl)) rfl
theorem fX11_18_10 : gk_Fg RX11 18 10 1 := ⟨RX11, TX11, 12, "AtomTables", gclX11, by decide, kw_391, Or.inl rfl⟩
theorem fX11_18_10w : gk_Fl RX11 18 10 1 (tyX11 1) true := ⟨RX11, TX11, 12, "AtomTables", gclX11, by decide, kw_391, Or.inl rfl, tyX11_ok 1 (by decide), rfl, fun _ => rfl⟩
theorem kw_392 : Cond.fieldLink "AtomTables" 21 "AtomTables" "taken" "Z" ∈ gk_T := gk_in (t2k (List.mem_of_getElem? (i := 69) rfl)) rfl
theorem fX11_21_10 : gk_Fg RX11 21 10 2 := ⟨RX11, TX11, 12, "AtomTables", gclX11, by decide, kw_392, Or.inl rfl⟩
theorem fX11_21_10w : gk_Fl RX11 21 10 2 (tyX11 2) false := ⟨RX11, TX11, 12, "AtomTables", gclX11, by decide, kw_392, Or.inl rfl, tyX11_ok 2 (by decide), rfl, fun q => by cases q⟩
theorem kw_393 : Cond.fieldLink "AtomTables" 30 "AtomTables" "patterns" "LAtomTables$Patterns;" ∈ gk_T := gk_in (t2k (List.mem_of_getElem? (i := 70) rfl)) rfl
theorem fX11_30_10 : gk_Fg RX11 30 10 3 := ⟨RX11, TX11, 12, "AtomTables", gclX11, by decide, kw_393, Or.inl rfl⟩
theorem fX11_30_10w : gk_Fl RX11 30 10 3 (tyX11 3) true := ⟨RX11, TX11, 12, "AtomTables", gclX11, by decide, kw_393, Or.inl rfl, tyX11_ok 3 (by decide), rfl, fun _ => rfl⟩
theorem kw_394 : Cond.fieldLink "AtomTables" 39 "AtomTables" "filler" "LAtomTables$Filler;" ∈ gk_T := gk_in (t2k (List.mem_of_getElem? (i := 71) rfl)) rfl
theorem fX11_39_10 : gk_Fg RX11 39 10 4 := ⟨RX11, TX11, 12, "AtomTables", gclX11, by decide, kw_394, Or.inl rfl⟩
theorem fX11_39_10w : gk_Fl RX11 39 10 4 (tyX11 4) true := ⟨RX11, TX11, 12, "AtomTables", gclX11, by decide, kw_394, Or.inl rfl, tyX11_ok 4 (by decide), rfl, fun _ => rfl⟩
theorem kw_395 : Cond.fieldLink "AtomTables" 46 "AtomTables" "game" "LAtomTables$Game;" ∈ gk_T := gk_in (t2k (List.mem_of_getElem? (i := 72) rfl)) rfl
theorem fX11_46_10 : gk_Fg RX11 46 10 5 := ⟨RX11, TX11, 12, "AtomTables", gclX11, by decide, kw_395, Or.inl rfl⟩
theorem fX11_46_10w : gk_Fl RX11 46 10 5 (tyX11 5) true := ⟨RX11, TX11, 12, "AtomTables", gclX11, by decide, kw_395, Or.inl rfl, tyX11_ok 5 (by decide), rfl, fun _ => rfl⟩
theorem kw_183 : Cond.fieldLink "AtomTables" 52 "AtomTables$Sheet" "table" "LAtomTables$Table;" ∈ gk_T := gk_in (t1k (List.mem_of_getElem? (i := 100) rfl)) rfl
theorem fX11_52_7 : gk_Fg RX11 52 7 0 := ⟨RX7, TX7, 4, "AtomTables$Sheet", gclX7, by decide, kw_183, Or.inl rfl⟩
theorem kw_396 : Cond.fieldLink "AtomTables" 59 "AtomTables" "desk" "LAtomTables$Board;" ∈ gk_T := gk_in (t2k (List.mem_of_getElem? (i := 73) rfl)) rfl
theorem fX11_59_10 : gk_Fg RX11 59 10 6 := ⟨RX11, TX11, 12, "AtomTables", gclX11, by decide, kw_396, Or.inl rfl⟩
theorem fX11_59_10w : gk_Fl RX11 59 10 6 (tyX11 6) true := ⟨RX11, TX11, 12, "AtomTables", gclX11, by decide, kw_396, Or.inl rfl, tyX11_ok 6 (by decide), rfl, fun _ => rfl⟩
theorem kw_397 : Cond.fieldLink "AtomTables" 66 "AtomTables" "pictures" "LAtomTables$Pictures;" ∈ gk_T := gk_in (t2k (List.mem_of_getElem? (i := 74) rfl)) rfl
theorem fX11_66_10 : gk_Fg RX11 66 10 7 := ⟨RX11, TX11, 12, "AtomTables", gclX11, by decide, kw_397, Or.inl rfl⟩
theorem fX11_66_10w : gk_Fl RX11 66 10 7 (tyX11 7) true := ⟨RX11, TX11, 12, "AtomTables", gclX11, by decide, kw_397, Or.inl rfl, tyX11_ok 7 (by decide), rfl, fun _ => rfl⟩
theorem kw_398 : Cond.fieldLink "AtomTables" 70 "AtomTables" "sizes" "[I" ∈ gk_T := gk_in (t2k (List.mem_of_getElem? (i := 75) rfl)) rfl
theorem fX11_70_10 : gk_Fg RX11 70 10 8 := ⟨RX11, TX11, 12, "AtomTables", gclX11, by decide, kw_398, Or.inl rfl⟩
theorem fX11_70_10w : gk_Fl RX11 70 10 8 (tyX11 8) true := ⟨RX11, TX11, 12, "AtomTables", gclX11, by decide, kw_398, Or.inl rfl, tyX11_ok 8 (by decide), rfl, fun _ => rfl⟩
theorem kw_399 : Cond.fieldLink "AtomTables" 74 "AtomTables" "longs" "[J" ∈ gk_T := gk_in (t2k (List.mem_of_getElem? (i := 76) rfl)) rfl
theorem fX11_74_10 : gk_Fg RX11 74 10 9 := ⟨RX11, TX11, 12, "AtomTables", gclX11, by decide, kw_399, Or.inl rfl⟩
theorem fX11_74_10w : gk_Fl RX11 74 10 9 (tyX11 9) true := ⟨RX11, TX11, 12, "AtomTables", gclX11, by decide, kw_399, Or.inl rfl, tyX11_ok 9 (by decide), rfl, fun _ => rfl⟩
theorem kw_400 : Cond.fieldLink "AtomTables" 81 "AtomTables" "tape" "LAtomTables$Tape;" ∈ gk_T := gk_in (t2k (List.mem_of_getElem? (i := 77) rfl)) rfl
theorem fX11_81_10 : gk_Fg RX11 81 10 10 := ⟨RX11, TX11, 12, "AtomTables", gclX11, by decide, kw_400, Or.inl rfl⟩
theorem fX11_81_10w : gk_Fl RX11 81 10 10 (tyX11 10) true := ⟨RX11, TX11, 12, "AtomTables", gclX11, by decide, kw_400, Or.inl rfl, tyX11_ok 10 (by decide), rfl, fun _ => rfl⟩
theorem kw_401 : Cond.fieldLink "AtomTables" 85 "AtomTables" "spelling" "LAtomTables$Tape;" ∈ gk_T := gk_in (t2k (List.mem_of_getElem? (i := 78) rfl)) rfl
theorem fX11_85_10 : gk_Fg RX11 85 10 11 := ⟨RX11, TX11, 12, "AtomTables", gclX11, by decide, kw_401, Or.inl rfl⟩
theorem fX11_85_10w : gk_Fl RX11 85 10 11 (tyX11 11) true := ⟨RX11, TX11, 12, "AtomTables", gclX11, by decide, kw_401, Or.inl rfl, tyX11_ok 11 (by decide), rfl, fun _ => rfl⟩
theorem kw_137 : Cond.fieldLink "AtomTables" 88 "AtomTables$Table" "size" "I" ∈ gk_T := gk_in (t1k (List.mem_of_getElem? (i := 54) rfl)) rfl
theorem fX11_88_8 : gk_Fg RX11 88 8 0 := ⟨RX8, TX8, 3, "AtomTables$Table", gclX8, by decide, kw_137, Or.inl rfl⟩
theorem fX11_88_8w : gk_Fl RX11 88 8 0 (tyX8 0) false := ⟨RX8, TX8, 3, "AtomTables$Table", gclX8, by decide, kw_137, Or.inl rfl, tyX8_ok 0 (by decide), rfl, fun q => by cases q⟩
theorem kw_149 : Cond.fieldLink "AtomTables" 163 "AtomTables$Table" "threes" "J" ∈ gk_T := gk_in (t1k (List.mem_of_getElem? (i := 66) rfl)) rfl
theorem fX11_163_8 : gk_Fg RX11 163 8 2 := ⟨RX8, TX8, 3, "AtomTables$Table", gclX8, by decide, kw_149, Or.inl rfl⟩
theorem fX11_163_8w : gk_Fl RX11 163 8 2 (tyX8 2) false := ⟨RX8, TX8, 3, "AtomTables$Table", gclX8, by decide, kw_149, Or.inl rfl, tyX8_ok 2 (by decide), rfl, fun q => by cases q⟩
theorem kw_185 : Cond.fieldLink "AtomTables" 177 "AtomTables$Sheet" "nets" "[LAtomTables$Net;" ∈ gk_T := gk_in (t1k (List.mem_of_getElem? (i := 102) rfl)) rfl
theorem fX11_177_7 : gk_Fg RX11 177 7 1 := ⟨RX7, TX7, 4, "AtomTables$Sheet", gclX7, by decide, kw_185, Or.inl rfl⟩
theorem kw_172 : Cond.fieldLink "AtomTables" 181 "AtomTables$Net" "size" "I" ∈ gk_T := gk_in (t1k (List.mem_of_getElem? (i := 89) rfl)) rfl
theorem fX11_181_3 : gk_Fg RX11 181 3 0 := ⟨RX3, TX3, 2, "AtomTables$Net", gclX3, by decide, kw_172, Or.inl rfl⟩
theorem fX11_181_3w : gk_Fl RX11 181 3 0 (tyX3 0) false := ⟨RX3, TX3, 2, "AtomTables$Net", gclX3, by decide, kw_172, Or.inl rfl, tyX3_ok 0 (by decide), rfl, fun q => by cases q⟩
theorem kw_276 : Cond.fieldLink "AtomTables" 188 "AtomTables$Filler" "row" "[I" ∈ gk_T := gk_in (t1k (List.mem_of_getElem? (i := 193) rfl)) rfl
theorem fX11_188_1 : gk_Fg RX11 188 1 4 := ⟨RX1, TX1, 5, "AtomTables$Filler", gclX1, by decide, kw_276, Or.inl rfl⟩
theorem kw_191 : Cond.fieldLink "AtomTables" 228 "AtomTables$Sheet" "bars" "Z" ∈ gk_T := gk_in (t1k (List.mem_of_getElem? (i := 108) rfl)) rfl
theorem fX11_228_7 : gk_Fg RX11 228 7 3 := ⟨RX7, TX7, 4, "AtomTables$Sheet", gclX7, by decide, kw_191, Or.inl rfl⟩
theorem fX11_228_7w : gk_Fl RX11 228 7 3 (tyX7 3) false := ⟨RX7, TX7, 4, "AtomTables$Sheet", gclX7, by decide, kw_191, Or.inl rfl, tyX7_ok 3 (by decide), rfl, fun q => by cases q⟩
theorem kw_188 : Cond.fieldLink "AtomTables" 231 "AtomTables$Sheet" "barred" "LAtomTables$Net;" ∈ gk_T := gk_in (t1k (List.mem_of_getElem? (i := 105) rfl)) rfl
theorem fX11_231_7 : gk_Fg RX11 231 7 2 := ⟨RX7, TX7, 4, "AtomTables$Sheet", gclX7, by decide, kw_188, Or.inl rfl⟩
theorem kw_333 : Cond.fieldLink "AtomTables" 252 "AtomTables$Board" "asked" "I" ∈ gk_T := gk_in (t2k (List.mem_of_getElem? (i := 10) rfl)) rfl
theorem fX11_252_0 : gk_Fg RX11 252 0 4 := ⟨RX0, TX0, 6, "AtomTables$Board", gclX0, by decide, kw_333, Or.inl rfl⟩
theorem fX11_252_0w : gk_Fl RX11 252 0 4 (tyX0 4) false := ⟨RX0, TX0, 6, "AtomTables$Board", gclX0, by decide, kw_333, Or.inl rfl, tyX0_ok 4 (by decide), rfl, fun q => by cases q⟩
theorem kw_327 : Cond.fieldLink "AtomTables" 255 "AtomTables$Board" "stands" "Z" ∈ gk_T := gk_in (t2k (List.mem_of_getElem? (i := 4) rfl)) rfl
theorem fX11_255_0 : gk_Fg RX11 255 0 1 := ⟨RX0, TX0, 6, "AtomTables$Board", gclX0, by decide, kw_327, Or.inl rfl⟩
theorem fX11_255_0w : gk_Fl RX11 255 0 1 (tyX0 1) false := ⟨RX0, TX0, 6, "AtomTables$Board", gclX0, by decide, kw_327, Or.inl rfl, tyX0_ok 1 (by decide), rfl, fun q => by cases q⟩
theorem kw_331 : Cond.fieldLink "AtomTables" 258 "AtomTables$Board" "asks" "[I" ∈ gk_T := gk_in (t2k (List.mem_of_getElem? (i := 8) rfl)) rfl
theorem fX11_258_0 : gk_Fg RX11 258 0 3 := ⟨RX0, TX0, 6, "AtomTables$Board", gclX0, by decide, kw_331, Or.inl rfl⟩
theorem kw_329 : Cond.fieldLink "AtomTables" 261 "AtomTables$Board" "net" "LAtomTables$Net;" ∈ gk_T := gk_in (t2k (List.mem_of_getElem? (i := 6) rfl)) rfl
theorem fX11_261_0 : gk_Fg RX11 261 0 2 := ⟨RX0, TX0, 6, "AtomTables$Board", gclX0, by decide, kw_329, Or.inl rfl⟩
theorem kw_335 : Cond.fieldLink "AtomTables" 275 "AtomTables$Board" "answered" "I" ∈ gk_T := gk_in (t2k (List.mem_of_getElem? (i := 12) rfl)) rfl
theorem fX11_275_0 : gk_Fg RX11 275 0 5 := ⟨RX0, TX0, 6, "AtomTables$Board", gclX0, by decide, kw_335, Or.inl rfl⟩
theorem fX11_275_0w : gk_Fl RX11 275 0 5 (tyX0 5) false := ⟨RX0, TX0, 6, "AtomTables$Board", gclX0, by decide, kw_335, Or.inl rfl, tyX0_ok 5 (by decide), rfl, fun q => by cases q⟩
theorem kw_358 : Cond.fieldLink "AtomTables" 288 "AtomTables$Pictures" "steps" "[I" ∈ gk_T := gk_in (t2k (List.mem_of_getElem? (i := 35) rfl)) rfl
theorem fX11_288_5 : gk_Fg RX11 288 5 6 := ⟨RX5, TX5, 8, "AtomTables$Pictures", gclX5, by decide, kw_358, Or.inl rfl⟩
theorem kw_380 : Cond.fieldLink "AtomTables" 293 "AtomTables$Tape" "size" "I" ∈ gk_T := gk_in (t2k (List.mem_of_getElem? (i := 57) rfl)) rfl
theorem fX11_293_9 : gk_Fg RX11 293 9 0 := ⟨RX9, TX9, 2, "AtomTables$Tape", gclX9, by decide, kw_380, Or.inl rfl⟩
theorem fX11_293_9w : gk_Fl RX11 293 9 0 (tyX9 0) false := ⟨RX9, TX9, 2, "AtomTables$Tape", gclX9, by decide, kw_380, Or.inl rfl, tyX9_ok 0 (by decide), rfl, fun q => by cases q⟩
theorem kw_382 : Cond.fieldLink "AtomTables" 306 "AtomTables$Tape" "bytes" "[B" ∈ gk_T := gk_in (t2k (List.mem_of_getElem? (i := 59) rfl)) rfl
theorem fX11_306_9 : gk_Fg RX11 306 9 1 := ⟨RX9, TX9, 2, "AtomTables$Tape", gclX9, by decide, kw_382, Or.inl rfl⟩
theorem kw_326 : Cond.fieldLink "AtomTables$Board" 9 "AtomTables$Board" "stands" "Z" ∈ gk_T := gk_in (t2k (List.mem_of_getElem? (i := 3) rfl)) rfl
theorem fX0_9_0 : gk_Fg RX0 9 0 1 := ⟨RX0, TX0, 6, "AtomTables$Board", gclX0, by decide, kw_326, Or.inl rfl⟩
theorem fX0_9_0w : gk_Fl RX0 9 0 1 (tyX0 1) false := ⟨RX0, TX0, 6, "AtomTables$Board", gclX0, by decide, kw_326, Or.inl rfl, tyX0_ok 1 (by decide), rfl, fun q => by cases q⟩
theorem kw_328 : Cond.fieldLink "AtomTables$Board" 18 "AtomTables$Board" "net" "LAtomTables$Net;" ∈ gk_T := gk_in (t2k (List.mem_of_getElem? (i := 5) rfl)) rfl
theorem fX0_18_0 : gk_Fg RX0 18 0 2 := ⟨RX0, TX0, 6, "AtomTables$Board", gclX0, by decide, kw_328, Or.inl rfl⟩
theorem fX0_18_0w : gk_Fl RX0 18 0 2 (tyX0 2) true := ⟨RX0, TX0, 6, "AtomTables$Board", gclX0, by decide, kw_328, Or.inl rfl, tyX0_ok 2 (by decide), rfl, fun _ => rfl⟩
theorem kw_330 : Cond.fieldLink "AtomTables$Board" 22 "AtomTables$Board" "asks" "[I" ∈ gk_T := gk_in (t2k (List.mem_of_getElem? (i := 7) rfl)) rfl
theorem fX0_22_0 : gk_Fg RX0 22 0 3 := ⟨RX0, TX0, 6, "AtomTables$Board", gclX0, by decide, kw_330, Or.inl rfl⟩
theorem fX0_22_0w : gk_Fl RX0 22 0 3 (tyX0 3) true := ⟨RX0, TX0, 6, "AtomTables$Board", gclX0, by decide, kw_330, Or.inl rfl, tyX0_ok 3 (by decide), rfl, fun _ => rfl⟩
theorem kw_332 : Cond.fieldLink "AtomTables$Board" 26 "AtomTables$Board" "asked" "I" ∈ gk_T := gk_in (t2k (List.mem_of_getElem? (i := 9) rfl)) rfl
theorem fX0_26_0 : gk_Fg RX0 26 0 4 := ⟨RX0, TX0, 6, "AtomTables$Board", gclX0, by decide, kw_332, Or.inl rfl⟩
theorem fX0_26_0w : gk_Fl RX0 26 0 4 (tyX0 4) false := ⟨RX0, TX0, 6, "AtomTables$Board", gclX0, by decide, kw_332, Or.inl rfl, tyX0_ok 4 (by decide), rfl, fun q => by cases q⟩
theorem kw_334 : Cond.fieldLink "AtomTables$Board" 30 "AtomTables$Board" "answered" "I" ∈ gk_T := gk_in (t2k (List.mem_of_getElem? (i := 11) rfl)) rfl
theorem fX0_30_0 : gk_Fg RX0 30 0 5 := ⟨RX0, TX0, 6, "AtomTables$Board", gclX0, by decide, kw_334, Or.inl rfl⟩
theorem fX0_30_0w : gk_Fl RX0 30 0 5 (tyX0 5) false := ⟨RX0, TX0, 6, "AtomTables$Board", gclX0, by decide, kw_334, Or.inl rfl, tyX0_ok 5 (by decide), rfl, fun q => by cases q⟩
theorem kw_325 : Cond.fieldLink "AtomTables$Board" 33 "AtomTables$Board" "table" "LAtomTables$Table;" ∈ gk_T := gk_in (t2k (List.mem_of_getElem? (i := 2) rfl)) rfl
theorem fX0_33_0 : gk_Fg RX0 33 0 0 := ⟨RX0, TX0, 6, "AtomTables$Board", gclX0, by decide, kw_325, Or.inl rfl⟩
theorem fX0_33_0w : gk_Fl RX0 33 0 0 (tyX0 0) true := ⟨RX0, TX0, 6, "AtomTables$Board", gclX0, by decide, kw_325, Or.inl rfl, tyX0_ok 0 (by decide), rfl, fun _ => rfl⟩
theorem kw_168 : Cond.fieldLink "AtomTables$Board" 41 "AtomTables$Net" "size" "I" ∈ gk_T := gk_in (t1k (List.mem_of_getElem? (i := 85) rfl)) rfl
theorem fX0_41_3 : gk_Fg RX0 41 3 0 := ⟨RX3, TX3, 2, "AtomTables$Net", gclX3, by decide, kw_168, Or.inl rfl⟩
theorem fX0_41_3w : gk_Fl RX0 41 3 0 (tyX3 0) false := ⟨RX3, TX3, 2, "AtomTables$Net", gclX3, by decide, kw_168, Or.inl rfl, tyX3_ok 0 (by decide), rfl, fun q => by cases q⟩
theorem kw_273 : Cond.fieldLink "AtomTables$Filler" 12 "AtomTables$Filler" "trial" "LAtomTables$Net;" ∈ gk_T := gk_in (t1k (List.mem_of_getElem? (i := 190) rfl)) rfl
theorem fX1_12_1 : gk_Fg RX1 12 1 2 := ⟨RX1, TX1, 5, "AtomTables$Filler", gclX1, by decide, kw_273, Or.inl rfl⟩
theorem fX1_12_1w : gk_Fl RX1 12 1 2 (tyX1 2) true := ⟨RX1, TX1, 5, "AtomTables$Filler", gclX1, by decide, kw_273, Or.inl rfl, tyX1_ok 2 (by decide), rfl, fun _ => rfl⟩
theorem kw_275 : Cond.fieldLink "AtomTables$Filler" 18 "AtomTables$Filler" "row" "[I" ∈ gk_T := gk_in (t1k (List.mem_of_getElem? (i := 192) rfl)) rfl
theorem fX1_18_1 : gk_Fg RX1 18 1 4 := ⟨RX1, TX1, 5, "AtomTables$Filler", gclX1, by decide, kw_275, Or.inl rfl⟩
theorem fX1_18_1w : gk_Fl RX1 18 1 4 (tyX1 4) true := ⟨RX1, TX1, 5, "AtomTables$Filler", gclX1, by decide, kw_275, Or.inl rfl, tyX1_ok 4 (by decide), rfl, fun _ => rfl⟩
theorem kw_271 : Cond.fieldLink "AtomTables$Filler" 22 "AtomTables$Filler" "sheet" "LAtomTables$Sheet;" ∈ gk_T := gk_in (t1k (List.mem_of_getElem? (i := 188) rfl)) rfl
theorem fX1_22_1 : gk_Fg RX1 22 1 0 := ⟨RX1, TX1, 5, "AtomTables$Filler", gclX1, by decide, kw_271, Or.inl rfl⟩
theorem fX1_22_1w : gk_Fl RX1 22 1 0 (tyX1 0) true := ⟨RX1, TX1, 5, "AtomTables$Filler", gclX1, by decide, kw_271, Or.inl rfl, tyX1_ok 0 (by decide), rfl, fun _ => rfl⟩
theorem kw_272 : Cond.fieldLink "AtomTables$Filler" 26 "AtomTables$Filler" "patterns" "LAtomTables$Patterns;" ∈ gk_T := gk_in (t1k (List.mem_of_getElem? (i := 189) rfl)) rfl
theorem fX1_26_1 : gk_Fg RX1 26 1 1 := ⟨RX1, TX1, 5, "AtomTables$Filler", gclX1, by decide, kw_272, Or.inl rfl⟩
theorem fX1_26_1w : gk_Fl RX1 26 1 1 (tyX1 1) true := ⟨RX1, TX1, 5, "AtomTables$Filler", gclX1, by decide, kw_272, Or.inl rfl, tyX1_ok 1 (by decide), rfl, fun _ => rfl⟩
theorem kw_181 : Cond.fieldLink "AtomTables$Filler" 32 "AtomTables$Sheet" "table" "LAtomTables$Table;" ∈ gk_T := gk_in (t1k (List.mem_of_getElem? (i := 98) rfl)) rfl
theorem fX1_32_7 : gk_Fg RX1 32 7 0 := ⟨RX7, TX7, 4, "AtomTables$Sheet", gclX7, by decide, kw_181, Or.inl rfl⟩
theorem kw_274 : Cond.fieldLink "AtomTables$Filler" 41 "AtomTables$Filler" "rows" "LAtomTables$Rows;" ∈ gk_T := gk_in (t1k (List.mem_of_getElem? (i := 191) rfl)) rfl
theorem fX1_41_1 : gk_Fg RX1 41 1 3 := ⟨RX1, TX1, 5, "AtomTables$Filler", gclX1, by decide, kw_274, Or.inl rfl⟩
theorem fX1_41_1w : gk_Fl RX1 41 1 3 (tyX1 3) true := ⟨RX1, TX1, 5, "AtomTables$Filler", gclX1, by decide, kw_274, Or.inl rfl, tyX1_ok 3 (by decide), rfl, fun _ => rfl⟩
theorem kw_139 : Cond.fieldLink "AtomTables$Filler" 45 "AtomTables$Table" "size" "I" ∈ gk_T := gk_in (t1k (List.mem_of_getElem? (i := 56) rfl)) rfl
theorem fX1_45_8 : gk_Fg RX1 45 8 0 := ⟨RX8, TX8, 3, "AtomTables$Table", gclX8, by decide, kw_139, Or.inl rfl⟩
theorem fX1_45_8w : gk_Fl RX1 45 8 0 (tyX8 0) false := ⟨RX8, TX8, 3, "AtomTables$Table", gclX8, by decide, kw_139, Or.inl rfl, tyX8_ok 0 (by decide), rfl, fun q => by cases q⟩
theorem kw_145 : Cond.fieldLink "AtomTables$Filler" 62 "AtomTables$Table" "mirror" "[I" ∈ gk_T := gk_in (t1k (List.mem_of_getElem? (i := 62) rfl)) rfl
theorem fX1_62_8 : gk_Fg RX1 62 8 1 := ⟨RX8, TX8, 3, "AtomTables$Table", gclX8, by decide, kw_145, Or.inl rfl⟩
theorem kw_224 : Cond.fieldLink "AtomTables$Filler" 70 "AtomTables$Rows" "at" "[I" ∈ gk_T := gk_in (t1k (List.mem_of_getElem? (i := 141) rfl)) rfl
theorem kw_222 : Cond.sameField "AtomTables$Rows" "AtomTables$Wheels" "at" "[I" ∈ gk_T := gk_in (t1k (List.mem_of_getElem? (i := 139) rfl)) rfl
theorem fX1_70_6 : gk_Fg RX1 70 6 1 := ⟨RX6, TX6, 6, "AtomTables$Rows", gclX6, by decide, kw_224, Or.inr kw_222⟩
theorem kw_171 : Cond.fieldLink "AtomTables$Filler" 94 "AtomTables$Net" "size" "I" ∈ gk_T := gk_in (t1k (List.mem_of_getElem? (i := 88) rfl)) rfl
theorem fX1_94_3 : gk_Fg RX1 94 3 0 := ⟨RX3, TX3, 2, "AtomTables$Net", gclX3, by decide, kw_171, Or.inl rfl⟩
theorem fX1_94_3w : gk_Fl RX1 94 3 0 (tyX3 0) false := ⟨RX3, TX3, 2, "AtomTables$Net", gclX3, by decide, kw_171, Or.inl rfl, tyX3_ok 0 (by decide), rfl, fun q => by cases q⟩
theorem kw_303 : Cond.fieldLink "AtomTables$Game" 12 "AtomTables$Game" "stage" "LAtomTables$Net;" ∈ gk_T := gk_in (t1k (List.mem_of_getElem? (i := 220) rfl)) rfl
theorem fX2_12_2 : gk_Fg RX2 12 2 2 := ⟨RX2, TX2, 5, "AtomTables$Game", gclX2, by decide, kw_303, Or.inl rfl⟩
theorem fX2_12_2w : gk_Fl RX2 12 2 2 (tyX2 2) true := ⟨RX2, TX2, 5, "AtomTables$Game", gclX2, by decide, kw_303, Or.inl rfl, tyX2_ok 2 (by decide), rfl, fun _ => rfl⟩
theorem kw_304 : Cond.fieldLink "AtomTables$Game" 20 "AtomTables$Game" "rows" "[LAtomTables$Rows;" ∈ gk_T := gk_in (t1k (List.mem_of_getElem? (i := 221) rfl)) rfl
theorem fX2_20_2 : gk_Fg RX2 20 2 3 := ⟨RX2, TX2, 5, "AtomTables$Game", gclX2, by decide, kw_304, Or.inl rfl⟩
theorem fX2_20_2w : gk_Fl RX2 20 2 3 (tyX2 3) true := ⟨RX2, TX2, 5, "AtomTables$Game", gclX2, by decide, kw_304, Or.inl rfl, tyX2_ok 3 (by decide), rfl, fun _ => rfl⟩
theorem kw_305 : Cond.fieldLink "AtomTables$Game" 26 "AtomTables$Game" "left" "[[I" ∈ gk_T := gk_in (t1k (List.mem_of_getElem? (i := 222) rfl)) rfl
theorem fX2_26_2 : gk_Fg RX2 26 2 4 := ⟨RX2, TX2, 5, "AtomTables$Game", gclX2, by decide, kw_305, Or.inl rfl⟩
theorem fX2_26_2w : gk_Fl RX2 26 2 4 (tyX2 4) true := ⟨RX2, TX2, 5, "AtomTables$Game", gclX2, by decide, kw_305, Or.inl rfl, tyX2_ok 4 (by decide), rfl, fun _ => rfl⟩
theorem kw_301 : Cond.fieldLink "AtomTables$Game" 29 "AtomTables$Game" "sheet" "LAtomTables$Sheet;" ∈ gk_T := gk_in (t1k (List.mem_of_getElem? (i := 218) rfl)) rfl
theorem fX2_29_2 : gk_Fg RX2 29 2 0 := ⟨RX2, TX2, 5, "AtomTables$Game", gclX2, by decide, kw_301, Or.inl rfl⟩
theorem fX2_29_2w : gk_Fl RX2 29 2 0 (tyX2 0) true := ⟨RX2, TX2, 5, "AtomTables$Game", gclX2, by decide, kw_301, Or.inl rfl, tyX2_ok 0 (by decide), rfl, fun _ => rfl⟩
theorem kw_302 : Cond.fieldLink "AtomTables$Game" 33 "AtomTables$Game" "patterns" "LAtomTables$Patterns;" ∈ gk_T := gk_in (t1k (List.mem_of_getElem? (i := 219) rfl)) rfl
theorem fX2_33_2 : gk_Fg RX2 33 2 1 := ⟨RX2, TX2, 5, "AtomTables$Game", gclX2, by decide, kw_302, Or.inl rfl⟩
theorem fX2_33_2w : gk_Fl RX2 33 2 1 (tyX2 1) true := ⟨RX2, TX2, 5, "AtomTables$Game", gclX2, by decide, kw_302, Or.inl rfl, tyX2_ok 1 (by decide), rfl, fun _ => rfl⟩
theorem kw_182 : Cond.fieldLink "AtomTables$Game" 37 "AtomTables$Sheet" "table" "LAtomTables$Table;" ∈ gk_T := gk_in (t1k (List.mem_of_getElem? (i := 99) rfl)) rfl
theorem fX2_37_7 : gk_Fg RX2 37 7 0 := ⟨RX7, TX7, 4, "AtomTables$Sheet", gclX7, by decide, kw_182, Or.inl rfl⟩
theorem kw_223 : Cond.fieldLink "AtomTables$Game" 70 "AtomTables$Rows" "at" "[I" ∈ gk_T := gk_in (t1k (List.mem_of_getElem? (i := 140) rfl)) rfl
theorem fX2_70_6 : gk_Fg RX2 70 6 1 := ⟨RX6, TX6, 6, "AtomTables$Rows", gclX6, by decide, kw_223, Or.inr kw_222⟩
theorem kw_170 : Cond.fieldLink "AtomTables$Game" 89 "AtomTables$Net" "size" "I" ∈ gk_T := gk_in (t1k (List.mem_of_getElem? (i := 87) rfl)) rfl
theorem fX2_89_3 : gk_Fg RX2 89 3 0 := ⟨RX3, TX3, 2, "AtomTables$Net", gclX3, by decide, kw_170, Or.inl rfl⟩
theorem fX2_89_3w : gk_Fl RX2 89 3 0 (tyX3 0) false := ⟨RX3, TX3, 2, "AtomTables$Net", gclX3, by decide, kw_170, Or.inl rfl, tyX3_ok 0 (by decide), rfl, fun q => by cases q⟩
theorem kw_146 : Cond.fieldLink "AtomTables$Game" 97 "AtomTables$Table" "mirror" "[I" ∈ gk_T := gk_in (t1k (List.mem_of_getElem? (i := 63) rfl)) rfl
theorem fX2_97_8 : gk_Fg RX2 97 8 1 := ⟨RX8, TX8, 3, "AtomTables$Table", gclX8, by decide, kw_146, Or.inl rfl⟩
theorem kw_165 : Cond.fieldLink "AtomTables$Net" 9 "AtomTables$Net" "size" "I" ∈ gk_T := gk_in (t1k (List.mem_of_getElem? (i := 82) rfl)) rfl
theorem fX3_9_3 : gk_Fg RX3 9 3 0 := ⟨RX3, TX3, 2, "AtomTables$Net", gclX3, by decide, kw_165, Or.inl rfl⟩
theorem fX3_9_3w : gk_Fl RX3 9 3 0 (tyX3 0) false := ⟨RX3, TX3, 2, "AtomTables$Net", gclX3, by decide, kw_165, Or.inl rfl, tyX3_ok 0 (by decide), rfl, fun q => by cases q⟩
theorem kw_173 : Cond.fieldLink "AtomTables$Net" 15 "AtomTables$Net" "labels" "[I" ∈ gk_T := gk_in (t1k (List.mem_of_getElem? (i := 90) rfl)) rfl
theorem fX3_15_3 : gk_Fg RX3 15 3 1 := ⟨RX3, TX3, 2, "AtomTables$Net", gclX3, by decide, kw_173, Or.inl rfl⟩
theorem fX3_15_3w : gk_Fl RX3 15 3 1 (tyX3 1) true := ⟨RX3, TX3, 2, "AtomTables$Net", gclX3, by decide, kw_173, Or.inl rfl, tyX3_ok 1 (by decide), rfl, fun _ => rfl⟩
theorem kw_144 : Cond.fieldLink "AtomTables$Net" 19 "AtomTables$Table" "mirror" "[I" ∈ gk_T := gk_in (t1k (List.mem_of_getElem? (i := 61) rfl)) rfl
theorem fX3_19_8 : gk_Fg RX3 19 8 1 := ⟨RX8, TX8, 3, "AtomTables$Table", gclX8, by decide, kw_144, Or.inl rfl⟩
theorem kw_140 : Cond.fieldLink "AtomTables$Net" 36 "AtomTables$Table" "size" "I" ∈ gk_T := gk_in (t1k (List.mem_of_getElem? (i := 57) rfl)) rfl
theorem fX3_36_8 : gk_Fg RX3 36 8 0 := ⟨RX8, TX8, 3, "AtomTables$Table", gclX8, by decide, kw_140, Or.inl rfl⟩
theorem fX3_36_8w : gk_Fl RX3 36 8 0 (tyX8 0) false := ⟨RX8, TX8, 3, "AtomTables$Table", gclX8, by decide, kw_140, Or.inl rfl, tyX8_ok 0 (by decide), rfl, fun q => by cases q⟩
theorem kw_210 : Cond.fieldLink "AtomTables$Patterns" 9 "AtomTables$Patterns" "sheet" "LAtomTables$Sheet;" ∈ gk_T := gk_in (t1k (List.mem_of_getElem? (i := 127) rfl)) rfl
theorem fX4_9_4 : gk_Fg RX4 9 4 4 := ⟨RX4, TX4, 7, "AtomTables$Patterns", gclX4, by decide, kw_210, Or.inl rfl⟩
theorem fX4_9_4w : gk_Fl RX4 9 4 4 (tyX4 4) true := ⟨RX4, TX4, 7, "AtomTables$Patterns", gclX4, by decide, kw_210, Or.inl rfl, tyX4_ok 4 (by decide), rfl, fun _ => rfl⟩
theorem kw_186 : Cond.fieldLink "AtomTables$Patterns" 15 "AtomTables$Sheet" "barred" "LAtomTables$Net;" ∈ gk_T := gk_in (t1k (List.mem_of_getElem? (i := 103) rfl)) rfl
theorem fX4_15_7 : gk_Fg RX4 15 7 2 := ⟨RX7, TX7, 4, "AtomTables$Sheet", gclX7, by decide, kw_186, Or.inl rfl⟩
theorem kw_211 : Cond.fieldLink "AtomTables$Patterns" 21 "AtomTables$Patterns" "small" "LAtomTables$Net;" ∈ gk_T := gk_in (t1k (List.mem_of_getElem? (i := 128) rfl)) rfl
theorem fX4_21_4 : gk_Fg RX4 21 4 5 := ⟨RX4, TX4, 7, "AtomTables$Patterns", gclX4, by decide, kw_211, Or.inl rfl⟩
theorem fX4_21_4w : gk_Fl RX4 21 4 5 (tyX4 5) false := ⟨RX4, TX4, 7, "AtomTables$Patterns", gclX4, by decide, kw_211, Or.inl rfl, tyX4_ok 5 (by decide), rfl, fun q => by cases q⟩
theorem kw_212 : Cond.fieldLink "AtomTables$Patterns" 24 "AtomTables$Patterns" "big" "LAtomTables$Net;" ∈ gk_T := gk_in (t1k (List.mem_of_getElem? (i := 129) rfl)) rfl
theorem fX4_24_4 : gk_Fg RX4 24 4 6 := ⟨RX4, TX4, 7, "AtomTables$Patterns", gclX4, by decide, kw_212, Or.inl rfl⟩
theorem fX4_24_4w : gk_Fl RX4 24 4 6 (tyX4 6) false := ⟨RX4, TX4, 7, "AtomTables$Patterns", gclX4, by decide, kw_212, Or.inl rfl, tyX4_ok 6 (by decide), rfl, fun q => by cases q⟩
theorem kw_190 : Cond.fieldLink "AtomTables$Patterns" 43 "AtomTables$Sheet" "bars" "Z" ∈ gk_T := gk_in (t1k (List.mem_of_getElem? (i := 107) rfl)) rfl
theorem fX4_43_7 : gk_Fg RX4 43 7 3 := ⟨RX7, TX7, 4, "AtomTables$Sheet", gclX7, by decide, kw_190, Or.inl rfl⟩
theorem fX4_43_7w : gk_Fl RX4 43 7 3 (tyX7 3) false := ⟨RX7, TX7, 4, "AtomTables$Sheet", gclX7, by decide, kw_190, Or.inl rfl, tyX7_ok 3 (by decide), rfl, fun q => by cases q⟩
theorem kw_169 : Cond.fieldLink "AtomTables$Patterns" 47 "AtomTables$Net" "size" "I" ∈ gk_T := gk_in (t1k (List.mem_of_getElem? (i := 86) rfl)) rfl
theorem fX4_47_3 : gk_Fg RX4 47 3 0 := ⟨RX3, TX3, 2, "AtomTables$Net", gclX3, by decide, kw_169, Or.inl rfl⟩
theorem fX4_47_3w : gk_Fl RX4 47 3 0 (tyX3 0) false := ⟨RX3, TX3, 2, "AtomTables$Net", gclX3, by decide, kw_169, Or.inl rfl, tyX3_ok 0 (by decide), rfl, fun q => by cases q⟩
theorem kw_216 : Cond.fieldLink "AtomTables$Patterns" 57 "AtomTables$Patterns" "size" "I" ∈ gk_T := gk_in (t1k (List.mem_of_getElem? (i := 133) rfl)) rfl
theorem kw_217 : Cond.sameField "AtomTables$Patterns" "AtomTables$Wheels" "size" "I" ∈ gk_T := gk_in (t1k (List.mem_of_getElem? (i := 134) rfl)) rfl
theorem fX4_57_4 : gk_Fg RX4 57 4 0 := ⟨RX4, TX4, 7, "AtomTables$Patterns", gclX4, by decide, kw_216, Or.inr kw_217⟩
theorem fX4_57_4w : gk_Fl RX4 57 4 0 (tyX4 0) false := ⟨RX4, TX4, 7, "AtomTables$Patterns", gclX4, by decide, kw_216, Or.inr kw_217, tyX4_ok 0 (by decide), rfl, fun q => by cases q⟩
theorem kw_174 : Cond.fieldLink "AtomTables$Patterns" 58 "AtomTables$Net" "labels" "[I" ∈ gk_T := gk_in (t1k (List.mem_of_getElem? (i := 91) rfl)) rfl
theorem fX4_58_3 : gk_Fg RX4 58 3 1 := ⟨RX3, TX3, 2, "AtomTables$Net", gclX3, by decide, kw_174, Or.inl rfl⟩
theorem kw_225 : Cond.fieldLink "AtomTables$Patterns" 62 "AtomTables$Patterns" "at" "[I" ∈ gk_T := gk_in (t1k (List.mem_of_getElem? (i := 142) rfl)) rfl
theorem kw_226 : Cond.sameField "AtomTables$Patterns" "AtomTables$Wheels" "at" "[I" ∈ gk_T := gk_in (t1k (List.mem_of_getElem? (i := 143) rfl)) rfl
theorem fX4_62_4 : gk_Fg RX4 62 4 1 := ⟨RX4, TX4, 7, "AtomTables$Patterns", gclX4, by decide, kw_225, Or.inr kw_226⟩
theorem kw_356 : Cond.fieldLink "AtomTables$Pictures" 9 "AtomTables$Pictures" "points" "I" ∈ gk_T := gk_in (t2k (List.mem_of_getElem? (i := 33) rfl)) rfl
theorem fX5_9_5 : gk_Fg RX5 9 5 5 := ⟨RX5, TX5, 8, "AtomTables$Pictures", gclX5, by decide, kw_356, Or.inl rfl⟩
theorem fX5_9_5w : gk_Fl RX5 9 5 5 (tyX5 5) false := ⟨RX5, TX5, 8, "AtomTables$Pictures", gclX5, by decide, kw_356, Or.inl rfl, tyX5_ok 5 (by decide), rfl, fun q => by cases q⟩
theorem kw_357 : Cond.fieldLink "AtomTables$Pictures" 15 "AtomTables$Pictures" "steps" "[I" ∈ gk_T := gk_in (t2k (List.mem_of_getElem? (i := 34) rfl)) rfl
theorem fX5_15_5 : gk_Fg RX5 15 5 6 := ⟨RX5, TX5, 8, "AtomTables$Pictures", gclX5, by decide, kw_357, Or.inl rfl⟩
theorem fX5_15_5w : gk_Fl RX5 15 5 6 (tyX5 6) true := ⟨RX5, TX5, 8, "AtomTables$Pictures", gclX5, by decide, kw_357, Or.inl rfl, tyX5_ok 6 (by decide), rfl, fun _ => rfl⟩
theorem kw_359 : Cond.fieldLink "AtomTables$Pictures" 19 "AtomTables$Pictures" "due" "[I" ∈ gk_T := gk_in (t2k (List.mem_of_getElem? (i := 36) rfl)) rfl
theorem fX5_19_5 : gk_Fg RX5 19 5 7 := ⟨RX5, TX5, 8, "AtomTables$Pictures", gclX5, by decide, kw_359, Or.inl rfl⟩
theorem fX5_19_5w : gk_Fl RX5 19 5 7 (tyX5 7) true := ⟨RX5, TX5, 8, "AtomTables$Pictures", gclX5, by decide, kw_359, Or.inl rfl, tyX5_ok 7 (by decide), rfl, fun _ => rfl⟩
theorem kw_355 : Cond.fieldLink "AtomTables$Pictures" 22 "AtomTables$Pictures" "table" "LAtomTables$Table;" ∈ gk_T := gk_in (t2k (List.mem_of_getElem? (i := 32) rfl)) rfl
theorem fX5_22_5 : gk_Fg RX5 22 5 4 := ⟨RX5, TX5, 8, "AtomTables$Pictures", gclX5, by decide, kw_355, Or.inl rfl⟩
theorem fX5_22_5w : gk_Fl RX5 22 5 4 (tyX5 4) true := ⟨RX5, TX5, 8, "AtomTables$Pictures", gclX5, by decide, kw_355, Or.inl rfl, tyX5_ok 4 (by decide), rfl, fun _ => rfl⟩
theorem kw_138 : Cond.fieldLink "AtomTables$Pictures" 26 "AtomTables$Table" "size" "I" ∈ gk_T := gk_in (t1k (List.mem_of_getElem? (i := 55) rfl)) rfl
theorem fX5_26_8 : gk_Fg RX5 26 8 0 := ⟨RX8, TX8, 3, "AtomTables$Table", gclX8, by decide, kw_138, Or.inl rfl⟩
theorem fX5_26_8w : gk_Fl RX5 26 8 0 (tyX8 0) false := ⟨RX8, TX8, 3, "AtomTables$Table", gclX8, by decide, kw_138, Or.inl rfl, tyX8_ok 0 (by decide), rfl, fun q => by cases q⟩
theorem kw_143 : Cond.fieldLink "AtomTables$Pictures" 31 "AtomTables$Table" "mirror" "[I" ∈ gk_T := gk_in (t1k (List.mem_of_getElem? (i := 60) rfl)) rfl
theorem fX5_31_8 : gk_Fg RX5 31 8 1 := ⟨RX8, TX8, 3, "AtomTables$Table", gclX8, by decide, kw_143, Or.inl rfl⟩
theorem kw_218 : Cond.fieldLink "AtomTables$Pictures" 67 "AtomTables$Pictures" "size" "I" ∈ gk_T := gk_in (t1k (List.mem_of_getElem? (i := 135) rfl)) rfl
theorem kw_219 : Cond.sameField "AtomTables$Pictures" "AtomTables$Wheels" "size" "I" ∈ gk_T := gk_in (t1k (List.mem_of_getElem? (i := 136) rfl)) rfl
theorem fX5_67_5 : gk_Fg RX5 67 5 0 := ⟨RX5, TX5, 8, "AtomTables$Pictures", gclX5, by decide, kw_218, Or.inr kw_219⟩
theorem fX5_67_5w : gk_Fl RX5 67 5 0 (tyX5 0) false := ⟨RX5, TX5, 8, "AtomTables$Pictures", gclX5, by decide, kw_218, Or.inr kw_219, tyX5_ok 0 (by decide), rfl, fun q => by cases q⟩
theorem kw_227 : Cond.fieldLink "AtomTables$Pictures" 68 "AtomTables$Pictures" "at" "[I" ∈ gk_T := gk_in (t1k (List.mem_of_getElem? (i := 144) rfl)) rfl
theorem kw_228 : Cond.sameField "AtomTables$Pictures" "AtomTables$Wheels" "at" "[I" ∈ gk_T := gk_in (t1k (List.mem_of_getElem? (i := 145) rfl)) rfl
theorem fX5_68_5 : gk_Fg RX5 68 5 1 := ⟨RX5, TX5, 8, "AtomTables$Pictures", gclX5, by decide, kw_227, Or.inr kw_228⟩
theorem kw_260 : Cond.fieldLink "AtomTables$Rows" 7 "AtomTables$Rows" "table" "LAtomTables$Table;" ∈ gk_T := gk_in (t1k (List.mem_of_getElem? (i := 177) rfl)) rfl
theorem fX6_7_6 : gk_Fg RX6 7 6 4 := ⟨RX6, TX6, 6, "AtomTables$Rows", gclX6, by decide, kw_260, Or.inl rfl⟩
theorem fX6_7_6w : gk_Fl RX6 7 6 4 (tyX6 4) true := ⟨RX6, TX6, 6, "AtomTables$Rows", gclX6, by decide, kw_260, Or.inl rfl, tyX6_ok 4 (by decide), rfl, fun _ => rfl⟩
theorem kw_261 : Cond.fieldLink "AtomTables$Rows" 13 "AtomTables$Rows" "net" "LAtomTables$Net;" ∈ gk_T := gk_in (t1k (List.mem_of_getElem? (i := 178) rfl)) rfl
theorem fX6_13_6 : gk_Fg RX6 13 6 5 := ⟨RX6, TX6, 6, "AtomTables$Rows", gclX6, by decide, kw_261, Or.inl rfl⟩
theorem fX6_13_6w : gk_Fl RX6 13 6 5 (tyX6 5) true := ⟨RX6, TX6, 6, "AtomTables$Rows", gclX6, by decide, kw_261, Or.inl rfl, tyX6_ok 5 (by decide), rfl, fun _ => rfl⟩
theorem kw_166 : Cond.fieldLink "AtomTables$Rows" 17 "AtomTables$Net" "size" "I" ∈ gk_T := gk_in (t1k (List.mem_of_getElem? (i := 83) rfl)) rfl
theorem fX6_17_3 : gk_Fg RX6 17 3 0 := ⟨RX3, TX3, 2, "AtomTables$Net", gclX3, by decide, kw_166, Or.inl rfl⟩
theorem fX6_17_3w : gk_Fl RX6 17 3 0 (tyX3 0) false := ⟨RX3, TX3, 2, "AtomTables$Net", gclX3, by decide, kw_166, Or.inl rfl, tyX3_ok 0 (by decide), rfl, fun q => by cases q⟩
theorem kw_136 : Cond.fieldLink "AtomTables$Rows" 23 "AtomTables$Table" "size" "I" ∈ gk_T := gk_in (t1k (List.mem_of_getElem? (i := 53) rfl)) rfl
theorem fX6_23_8 : gk_Fg RX6 23 8 0 := ⟨RX8, TX8, 3, "AtomTables$Table", gclX8, by decide, kw_136, Or.inl rfl⟩
theorem fX6_23_8w : gk_Fl RX6 23 8 0 (tyX8 0) false := ⟨RX8, TX8, 3, "AtomTables$Table", gclX8, by decide, kw_136, Or.inl rfl, tyX8_ok 0 (by decide), rfl, fun q => by cases q⟩
theorem kw_214 : Cond.fieldLink "AtomTables$Rows" 30 "AtomTables$Rows" "size" "I" ∈ gk_T := gk_in (t1k (List.mem_of_getElem? (i := 131) rfl)) rfl
theorem kw_215 : Cond.sameField "AtomTables$Rows" "AtomTables$Wheels" "size" "I" ∈ gk_T := gk_in (t1k (List.mem_of_getElem? (i := 132) rfl)) rfl
theorem fX6_30_6 : gk_Fg RX6 30 6 0 := ⟨RX6, TX6, 6, "AtomTables$Rows", gclX6, by decide, kw_214, Or.inr kw_215⟩
theorem fX6_30_6w : gk_Fl RX6 30 6 0 (tyX6 0) false := ⟨RX6, TX6, 6, "AtomTables$Rows", gclX6, by decide, kw_214, Or.inr kw_215, tyX6_ok 0 (by decide), rfl, fun q => by cases q⟩
theorem kw_221 : Cond.fieldLink "AtomTables$Rows" 35 "AtomTables$Rows" "at" "[I" ∈ gk_T := gk_in (t1k (List.mem_of_getElem? (i := 138) rfl)) rfl
theorem fX6_35_6 : gk_Fg RX6 35 6 1 := ⟨RX6, TX6, 6, "AtomTables$Rows", gclX6, by decide, kw_221, Or.inr kw_222⟩
theorem kw_180 : Cond.fieldLink "AtomTables$Sheet" 12 "AtomTables$Sheet" "table" "LAtomTables$Table;" ∈ gk_T := gk_in (t1k (List.mem_of_getElem? (i := 97) rfl)) rfl
theorem fX7_12_7 : gk_Fg RX7 12 7 0 := ⟨RX7, TX7, 4, "AtomTables$Sheet", gclX7, by decide, kw_180, Or.inl rfl⟩
theorem fX7_12_7w : gk_Fl RX7 12 7 0 (tyX7 0) true := ⟨RX7, TX7, 4, "AtomTables$Sheet", gclX7, by decide, kw_180, Or.inl rfl, tyX7_ok 0 (by decide), rfl, fun _ => rfl⟩
theorem kw_184 : Cond.fieldLink "AtomTables$Sheet" 20 "AtomTables$Sheet" "nets" "[LAtomTables$Net;" ∈ gk_T := gk_in (t1k (List.mem_of_getElem? (i := 101) rfl)) rfl
theorem fX7_20_7 : gk_Fg RX7 20 7 1 := ⟨RX7, TX7, 4, "AtomTables$Sheet", gclX7, by decide, kw_184, Or.inl rfl⟩
theorem fX7_20_7w : gk_Fl RX7 20 7 1 (tyX7 1) true := ⟨RX7, TX7, 4, "AtomTables$Sheet", gclX7, by decide, kw_184, Or.inl rfl, tyX7_ok 1 (by decide), rfl, fun _ => rfl⟩
theorem kw_187 : Cond.fieldLink "AtomTables$Sheet" 25 "AtomTables$Sheet" "barred" "LAtomTables$Net;" ∈ gk_T := gk_in (t1k (List.mem_of_getElem? (i := 104) rfl)) rfl
theorem fX7_25_7 : gk_Fg RX7 25 7 2 := ⟨RX7, TX7, 4, "AtomTables$Sheet", gclX7, by decide, kw_187, Or.inl rfl⟩
theorem fX7_25_7w : gk_Fl RX7 25 7 2 (tyX7 2) true := ⟨RX7, TX7, 4, "AtomTables$Sheet", gclX7, by decide, kw_187, Or.inl rfl, tyX7_ok 2 (by decide), rfl, fun _ => rfl⟩
theorem kw_189 : Cond.fieldLink "AtomTables$Sheet" 29 "AtomTables$Sheet" "bars" "Z" ∈ gk_T := gk_in (t1k (List.mem_of_getElem? (i := 106) rfl)) rfl
theorem fX7_29_7 : gk_Fg RX7 29 7 3 := ⟨RX7, TX7, 4, "AtomTables$Sheet", gclX7, by decide, kw_189, Or.inl rfl⟩
theorem fX7_29_7w : gk_Fl RX7 29 7 3 (tyX7 3) false := ⟨RX7, TX7, 4, "AtomTables$Sheet", gclX7, by decide, kw_189, Or.inl rfl, tyX7_ok 3 (by decide), rfl, fun q => by cases q⟩
theorem kw_167 : Cond.fieldLink "AtomTables$Sheet" 33 "AtomTables$Net" "size" "I" ∈ gk_T := gk_in (t1k (List.mem_of_getElem? (i := 84) rfl)) rfl
theorem fX7_33_3 : gk_Fg RX7 33 3 0 := ⟨RX3, TX3, 2, "AtomTables$Net", gclX3, by decide, kw_167, Or.inl rfl⟩
theorem fX7_33_3w : gk_Fl RX7 33 3 0 (tyX3 0) false := ⟨RX3, TX3, 2, "AtomTables$Net", gclX3, by decide, kw_167, Or.inl rfl, tyX3_ok 0 (by decide), rfl, fun q => by cases q⟩
theorem kw_135 : Cond.fieldLink "AtomTables$Table" 9 "AtomTables$Table" "size" "I" ∈ gk_T := gk_in (t1k (List.mem_of_getElem? (i := 52) rfl)) rfl
theorem fX8_9_8 : gk_Fg RX8 9 8 0 := ⟨RX8, TX8, 3, "AtomTables$Table", gclX8, by decide, kw_135, Or.inl rfl⟩
theorem fX8_9_8w : gk_Fl RX8 9 8 0 (tyX8 0) false := ⟨RX8, TX8, 3, "AtomTables$Table", gclX8, by decide, kw_135, Or.inl rfl, tyX8_ok 0 (by decide), rfl, fun q => by cases q⟩
theorem kw_142 : Cond.fieldLink "AtomTables$Table" 15 "AtomTables$Table" "mirror" "[I" ∈ gk_T := gk_in (t1k (List.mem_of_getElem? (i := 59) rfl)) rfl
theorem fX8_15_8 : gk_Fg RX8 15 8 1 := ⟨RX8, TX8, 3, "AtomTables$Table", gclX8, by decide, kw_142, Or.inl rfl⟩
theorem fX8_15_8w : gk_Fl RX8 15 8 1 (tyX8 1) true := ⟨RX8, TX8, 3, "AtomTables$Table", gclX8, by decide, kw_142, Or.inl rfl, tyX8_ok 1 (by decide), rfl, fun _ => rfl⟩
theorem kw_148 : Cond.fieldLink "AtomTables$Table" 19 "AtomTables$Table" "threes" "J" ∈ gk_T := gk_in (t1k (List.mem_of_getElem? (i := 65) rfl)) rfl
theorem fX8_19_8 : gk_Fg RX8 19 8 2 := ⟨RX8, TX8, 3, "AtomTables$Table", gclX8, by decide, kw_148, Or.inl rfl⟩
theorem fX8_19_8w : gk_Fl RX8 19 8 2 (tyX8 2) false := ⟨RX8, TX8, 3, "AtomTables$Table", gclX8, by decide, kw_148, Or.inl rfl, tyX8_ok 2 (by decide), rfl, fun q => by cases q⟩
theorem kw_379 : Cond.fieldLink "AtomTables$Tape" 9 "AtomTables$Tape" "size" "I" ∈ gk_T := gk_in (t2k (List.mem_of_getElem? (i := 56) rfl)) rfl
theorem fX9_9_9 : gk_Fg RX9 9 9 0 := ⟨RX9, TX9, 2, "AtomTables$Tape", gclX9, by decide, kw_379, Or.inl rfl⟩
theorem fX9_9_9w : gk_Fl RX9 9 9 0 (tyX9 0) false := ⟨RX9, TX9, 2, "AtomTables$Tape", gclX9, by decide, kw_379, Or.inl rfl, tyX9_ok 0 (by decide), rfl, fun q => by cases q⟩
theorem kw_381 : Cond.fieldLink "AtomTables$Tape" 15 "AtomTables$Tape" "bytes" "[B" ∈ gk_T := gk_in (t2k (List.mem_of_getElem? (i := 58) rfl)) rfl
theorem fX9_15_9 : gk_Fg RX9 15 9 1 := ⟨RX9, TX9, 2, "AtomTables$Tape", gclX9, by decide, kw_381, Or.inl rfl⟩
theorem fX9_15_9w : gk_Fl RX9 15 9 1 (tyX9 1) true := ⟨RX9, TX9, 2, "AtomTables$Tape", gclX9, by decide, kw_381, Or.inl rfl, tyX9_ok 1 (by decide), rfl, fun _ => rfl⟩
theorem kw_141 : Cond.fieldLink "AtomTables$Tape" 63 "AtomTables$Table" "size" "I" ∈ gk_T := gk_in (t1k (List.mem_of_getElem? (i := 58) rfl)) rfl
theorem fX9_63_8 : gk_Fg RX9 63 8 0 := ⟨RX8, TX8, 3, "AtomTables$Table", gclX8, by decide, kw_141, Or.inl rfl⟩
theorem fX9_63_8w : gk_Fl RX9 63 8 0 (tyX8 0) false := ⟨RX8, TX8, 3, "AtomTables$Table", gclX8, by decide, kw_141, Or.inl rfl, tyX8_ok 0 (by decide), rfl, fun q => by cases q⟩
theorem kw_147 : Cond.fieldLink "AtomTables$Tape" 70 "AtomTables$Table" "mirror" "[I" ∈ gk_T := gk_in (t1k (List.mem_of_getElem? (i := 64) rfl)) rfl
theorem fX9_70_8 : gk_Fg RX9 70 8 1 := ⟨RX8, TX8, 3, "AtomTables$Table", gclX8, by decide, kw_147, Or.inl rfl⟩
theorem kw_213 : Cond.fieldLink "AtomTables$Wheels" 9 "AtomTables$Wheels" "size" "I" ∈ gk_T := gk_in (t1k (List.mem_of_getElem? (i := 130) rfl)) rfl
theorem fX10_9_4 : gk_Fg RX10 9 4 0 := ⟨RX4, TX4, 7, "AtomTables$Wheels", gclX4, by decide, kw_213, Or.inl rfl⟩
theorem fX10_9_4w : gk_Fl RX10 9 4 0 (tyX4 0) false := ⟨RX4, TX4, 7, "AtomTables$Wheels", gclX4, by decide, kw_213, Or.inl rfl, tyX4_ok 0 (by decide), rfl, fun q => by cases q⟩
theorem fX10_9_5 : gk_Fg RX10 9 5 0 := ⟨RX5, TX5, 8, "AtomTables$Wheels", gclX5, by decide, kw_213, Or.inl rfl⟩
theorem fX10_9_5w : gk_Fl RX10 9 5 0 (tyX5 0) false := ⟨RX5, TX5, 8, "AtomTables$Wheels", gclX5, by decide, kw_213, Or.inl rfl, tyX5_ok 0 (by decide), rfl, fun q => by cases q⟩
theorem fX10_9_6 : gk_Fg RX10 9 6 0 := ⟨RX6, TX6, 6, "AtomTables$Wheels", gclX6, by decide, kw_213, Or.inl rfl⟩
theorem fX10_9_6w : gk_Fl RX10 9 6 0 (tyX6 0) false := ⟨RX6, TX6, 6, "AtomTables$Wheels", gclX6, by decide, kw_213, Or.inl rfl, tyX6_ok 0 (by decide), rfl, fun q => by cases q⟩
theorem kw_220 : Cond.fieldLink "AtomTables$Wheels" 15 "AtomTables$Wheels" "at" "[I" ∈ gk_T := gk_in (t1k (List.mem_of_getElem? (i := 137) rfl)) rfl
theorem fX10_15_4 : gk_Fg RX10 15 4 1 := ⟨RX4, TX4, 7, "AtomTables$Wheels", gclX4, by decide, kw_220, Or.inl rfl⟩
theorem fX10_15_4w : gk_Fl RX10 15 4 1 (tyX4 1) true := ⟨RX4, TX4, 7, "AtomTables$Wheels", gclX4, by decide, kw_220, Or.inl rfl, tyX4_ok 1 (by decide), rfl, fun _ => rfl⟩
theorem fX10_15_5 : gk_Fg RX10 15 5 1 := ⟨RX5, TX5, 8, "AtomTables$Wheels", gclX5, by decide, kw_220, Or.inl rfl⟩
theorem fX10_15_5w : gk_Fl RX10 15 5 1 (tyX5 1) true := ⟨RX5, TX5, 8, "AtomTables$Wheels", gclX5, by decide, kw_220, Or.inl rfl, tyX5_ok 1 (by decide), rfl, fun _ => rfl⟩
theorem fX10_15_6 : gk_Fg RX10 15 6 1 := ⟨RX6, TX6, 6, "AtomTables$Wheels", gclX6, by decide, kw_220, Or.inl rfl⟩
theorem fX10_15_6w : gk_Fl RX10 15 6 1 (tyX6 1) true := ⟨RX6, TX6, 6, "AtomTables$Wheels", gclX6, by decide, kw_220, Or.inl rfl, tyX6_ok 1 (by decide), rfl, fun _ => rfl⟩
theorem kw_229 : Cond.fieldLink "AtomTables$Wheels" 19 "AtomTables$Wheels" "low" "[I" ∈ gk_T := gk_in (t1k (List.mem_of_getElem? (i := 146) rfl)) rfl
theorem fX10_19_4 : gk_Fg RX10 19 4 2 := ⟨RX4, TX4, 7, "AtomTables$Wheels", gclX4, by decide, kw_229, Or.inl rfl⟩
theorem fX10_19_4w : gk_Fl RX10 19 4 2 (tyX4 2) true := ⟨RX4, TX4, 7, "AtomTables$Wheels", gclX4, by decide, kw_229, Or.inl rfl, tyX4_ok 2 (by decide), rfl, fun _ => rfl⟩
theorem fX10_19_5 : gk_Fg RX10 19 5 2 := ⟨RX5, TX5, 8, "AtomTables$Wheels", gclX5, by decide, kw_229, Or.inl rfl⟩
theorem fX10_19_5w : gk_Fl RX10 19 5 2 (tyX5 2) true := ⟨RX5, TX5, 8, "AtomTables$Wheels", gclX5, by decide, kw_229, Or.inl rfl, tyX5_ok 2 (by decide), rfl, fun _ => rfl⟩
theorem fX10_19_6 : gk_Fg RX10 19 6 2 := ⟨RX6, TX6, 6, "AtomTables$Wheels", gclX6, by decide, kw_229, Or.inl rfl⟩
theorem fX10_19_6w : gk_Fl RX10 19 6 2 (tyX6 2) true := ⟨RX6, TX6, 6, "AtomTables$Wheels", gclX6, by decide, kw_229, Or.inl rfl, tyX6_ok 2 (by decide), rfl, fun _ => rfl⟩
theorem kw_230 : Cond.fieldLink "AtomTables$Wheels" 22 "AtomTables$Wheels" "high" "[I" ∈ gk_T := gk_in (t1k (List.mem_of_getElem? (i := 147) rfl)) rfl
theorem fX10_22_4 : gk_Fg RX10 22 4 3 := ⟨RX4, TX4, 7, "AtomTables$Wheels", gclX4, by decide, kw_230, Or.inl rfl⟩
theorem fX10_22_4w : gk_Fl RX10 22 4 3 (tyX4 3) true := ⟨RX4, TX4, 7, "AtomTables$Wheels", gclX4, by decide, kw_230, Or.inl rfl, tyX4_ok 3 (by decide), rfl, fun _ => rfl⟩
theorem fX10_22_5 : gk_Fg RX10 22 5 3 := ⟨RX5, TX5, 8, "AtomTables$Wheels", gclX5, by decide, kw_230, Or.inl rfl⟩
theorem fX10_22_5w : gk_Fl RX10 22 5 3 (tyX5 3) true := ⟨RX5, TX5, 8, "AtomTables$Wheels", gclX5, by decide, kw_230, Or.inl rfl, tyX5_ok 3 (by decide), rfl, fun _ => rfl⟩
theorem fX10_22_6 : gk_Fg RX10 22 6 3 := ⟨RX6, TX6, 6, "AtomTables$Wheels", gclX6, by decide, kw_230, Or.inl rfl⟩
theorem fX10_22_6w : gk_Fl RX10 22 6 3 (tyX6 3) true := ⟨RX6, TX6, 6, "AtomTables$Wheels", gclX6, by decide, kw_230, Or.inl rfl, tyX6_ok 3 (by decide), rfl, fun _ => rfl⟩
theorem kw_1139 : Cond.fieldLink "AtomTablesModel" 9 "AtomTablesModel" "atoms" "I" ∈ gk_T := gk_in (t5k (List.mem_of_getElem? (i := 96) rfl)) rfl
theorem fX12_9_11 : gk_Fg RX12 9 11 0 := ⟨RX12, TX12, 34, "AtomTablesModel", gclX12, by decide, kw_1139, Or.inl rfl⟩
theorem fX12_9_11w : gk_Fl RX12 9 11 0 (tyX12 0) false := ⟨RX12, TX12, 34, "AtomTablesModel", gclX12, by decide, kw_1139, Or.inl rfl, tyX12_ok 0 (by decide), rfl, fun q => by cases q⟩
theorem kw_1140 : Cond.fieldLink "AtomTablesModel" 15 "AtomTablesModel" "converses" "[I" ∈ gk_T := gk_in (t5k (List.mem_of_getElem? (i := 97) rfl)) rfl
theorem fX12_15_11 : gk_Fg RX12 15 11 1 := ⟨RX12, TX12, 34, "AtomTablesModel", gclX12, by decide, kw_1140, Or.inl rfl⟩
theorem fX12_15_11w : gk_Fl RX12 15 11 1 (tyX12 1) true := ⟨RX12, TX12, 34, "AtomTablesModel", gclX12, by decide, kw_1140, Or.inl rfl, tyX12_ok 1 (by decide), rfl, fun _ => rfl⟩
theorem kw_1141 : Cond.fieldLink "AtomTablesModel" 19 "AtomTablesModel" "threes" "[Z" ∈ gk_T := gk_in (t5k (List.mem_of_getElem? (i := 98) rfl)) rfl
theorem fX12_19_11 : gk_Fg RX12 19 11 2 := ⟨RX12, TX12, 34, "AtomTablesModel", gclX12, by decide, kw_1141, Or.inl rfl⟩
theorem fX12_19_11w : gk_Fl RX12 19 11 2 (tyX12 2) true := ⟨RX12, TX12, 34, "AtomTablesModel", gclX12, by decide, kw_1141, Or.inl rfl, tyX12_ok 2 (by decide), rfl, fun _ => rfl⟩
theorem kw_1142 : Cond.fieldLink "AtomTablesModel" 23 "AtomTablesModel" "sizes" "[I" ∈ gk_T := gk_in (t5k (List.mem_of_getElem? (i := 99) rfl)) rfl
theorem fX12_23_11 : gk_Fg RX12 23 11 3 := ⟨RX12, TX12, 34, "AtomTablesModel", gclX12, by decide, kw_1142, Or.inl rfl⟩
theorem fX12_23_11w : gk_Fl RX12 23 11 3 (tyX12 3) true := ⟨RX12, TX12, 34, "AtomTablesModel", gclX12, by decide, kw_1142, Or.inl rfl, tyX12_ok 3 (by decide), rfl, fun _ => rfl⟩
theorem kw_1143 : Cond.fieldLink "AtomTablesModel" 26 "AtomTablesModel" "labels" "[I" ∈ gk_T := gk_in (t5k (List.mem_of_getElem? (i := 100) rfl)) rfl
theorem fX12_26_11 : gk_Fg RX12 26 11 4 := ⟨RX12, TX12, 34, "AtomTablesModel", gclX12, by decide, kw_1143, Or.inl rfl⟩
theorem fX12_26_11w : gk_Fl RX12 26 11 4 (tyX12 4) true := ⟨RX12, TX12, 34, "AtomTablesModel", gclX12, by decide, kw_1143, Or.inl rfl, tyX12_ok 4 (by decide), rfl, fun _ => rfl⟩
theorem kw_1146 : Cond.fieldLink "AtomTablesModel" 29 "AtomTablesModel" "asks" "[I" ∈ gk_T := gk_in (t5k (List.mem_of_getElem? (i := 103) rfl)) rfl
theorem fX12_29_11 : gk_Fg RX12 29 11 7 := ⟨RX12, TX12, 34, "AtomTablesModel", gclX12, by decide, kw_1146, Or.inl rfl⟩
theorem fX12_29_11w : gk_Fl RX12 29 11 7 (tyX12 7) true := ⟨RX12, TX12, 34, "AtomTablesModel", gclX12, by decide, kw_1146, Or.inl rfl, tyX12_ok 7 (by decide), rfl, fun _ => rfl⟩
theorem kw_1153 : Cond.fieldLink "AtomTablesModel" 32 "AtomTablesModel" "steps" "[I" ∈ gk_T := gk_in (t5k (List.mem_of_getElem? (i := 110) rfl)) rfl
theorem fX12_32_11 : gk_Fg RX12 32 11 14 := ⟨RX12, TX12, 34, "AtomTablesModel", gclX12, by decide, kw_1153, Or.inl rfl⟩
theorem fX12_32_11w : gk_Fl RX12 32 11 14 (tyX12 14) true := ⟨RX12, TX12, 34, "AtomTablesModel", gclX12, by decide, kw_1153, Or.inl rfl, tyX12_ok 14 (by decide), rfl, fun _ => rfl⟩
theorem kw_1154 : Cond.fieldLink "AtomTablesModel" 35 "AtomTablesModel" "longs" "[I" ∈ gk_T := gk_in (t5k (List.mem_of_getElem? (i := 111) rfl)) rfl
theorem fX12_35_11 : gk_Fg RX12 35 11 15 := ⟨RX12, TX12, 34, "AtomTablesModel", gclX12, by decide, kw_1154, Or.inl rfl⟩
theorem fX12_35_11w : gk_Fl RX12 35 11 15 (tyX12 15) true := ⟨RX12, TX12, 34, "AtomTablesModel", gclX12, by decide, kw_1154, Or.inl rfl, tyX12_ok 15 (by decide), rfl, fun _ => rfl⟩
theorem kw_1155 : Cond.fieldLink "AtomTablesModel" 38 "AtomTablesModel" "items" "[J" ∈ gk_T := gk_in (t5k (List.mem_of_getElem? (i := 112) rfl)) rfl
theorem fX12_38_11 : gk_Fg RX12 38 11 16 := ⟨RX12, TX12, 34, "AtomTablesModel", gclX12, by decide, kw_1155, Or.inl rfl⟩
theorem fX12_38_11w : gk_Fl RX12 38 11 16 (tyX12 16) true := ⟨RX12, TX12, 34, "AtomTablesModel", gclX12, by decide, kw_1155, Or.inl rfl, tyX12_ok 16 (by decide), rfl, fun _ => rfl⟩
theorem kw_1156 : Cond.fieldLink "AtomTablesModel" 42 "AtomTablesModel" "words" "[C" ∈ gk_T := gk_in (t5k (List.mem_of_getElem? (i := 113) rfl)) rfl
theorem fX12_42_11 : gk_Fg RX12 42 11 17 := ⟨RX12, TX12, 34, "AtomTablesModel", gclX12, by decide, kw_1156, Or.inl rfl⟩
theorem fX12_42_11w : gk_Fl RX12 42 11 17 (tyX12 17) true := ⟨RX12, TX12, 34, "AtomTablesModel", gclX12, by decide, kw_1156, Or.inl rfl, tyX12_ok 17 (by decide), rfl, fun _ => rfl⟩
theorem kw_1157 : Cond.fieldLink "AtomTablesModel" 46 "AtomTablesModel" "figures" "[I" ∈ gk_T := gk_in (t5k (List.mem_of_getElem? (i := 114) rfl)) rfl
theorem fX12_46_11 : gk_Fg RX12 46 11 18 := ⟨RX12, TX12, 34, "AtomTablesModel", gclX12, by decide, kw_1157, Or.inl rfl⟩
theorem fX12_46_11w : gk_Fl RX12 46 11 18 (tyX12 18) true := ⟨RX12, TX12, 34, "AtomTablesModel", gclX12, by decide, kw_1157, Or.inl rfl, tyX12_ok 18 (by decide), rfl, fun _ => rfl⟩
theorem kw_1158 : Cond.fieldLink "AtomTablesModel" 49 "AtomTablesModel" "tape" "[I" ∈ gk_T := gk_in (t5k (List.mem_of_getElem? (i := 115) rfl)) rfl
theorem fX12_49_11 : gk_Fg RX12 49 11 19 := ⟨RX12, TX12, 34, "AtomTablesModel", gclX12, by decide, kw_1158, Or.inl rfl⟩
theorem fX12_49_11w : gk_Fl RX12 49 11 19 (tyX12 19) true := ⟨RX12, TX12, 34, "AtomTablesModel", gclX12, by decide, kw_1158, Or.inl rfl, tyX12_ok 19 (by decide), rfl, fun _ => rfl⟩
theorem kw_1162 : Cond.fieldLink "AtomTablesModel" 52 "AtomTablesModel" "told" "[I" ∈ gk_T := gk_in (t5k (List.mem_of_getElem? (i := 119) rfl)) rfl
theorem fX12_52_11 : gk_Fg RX12 52 11 23 := ⟨RX12, TX12, 34, "AtomTablesModel", gclX12, by decide, kw_1162, Or.inl rfl⟩
theorem fX12_52_11w : gk_Fl RX12 52 11 23 (tyX12 23) true := ⟨RX12, TX12, 34, "AtomTablesModel", gclX12, by decide, kw_1162, Or.inl rfl, tyX12_ok 23 (by decide), rfl, fun _ => rfl⟩
theorem kw_1168 : Cond.fieldLink "AtomTablesModel" 55 "AtomTablesModel" "keptConverses" "[I" ∈ gk_T := gk_in (t5k (List.mem_of_getElem? (i := 125) rfl)) rfl
theorem fX12_55_11 : gk_Fg RX12 55 11 29 := ⟨RX12, TX12, 34, "AtomTablesModel", gclX12, by decide, kw_1168, Or.inl rfl⟩
theorem fX12_55_11w : gk_Fl RX12 55 11 29 (tyX12 29) true := ⟨RX12, TX12, 34, "AtomTablesModel", gclX12, by decide, kw_1168, Or.inl rfl, tyX12_ok 29 (by decide), rfl, fun _ => rfl⟩
theorem kw_1169 : Cond.fieldLink "AtomTablesModel" 58 "AtomTablesModel" "keptThrees" "[Z" ∈ gk_T := gk_in (t5k (List.mem_of_getElem? (i := 126) rfl)) rfl
theorem fX12_58_11 : gk_Fg RX12 58 11 30 := ⟨RX12, TX12, 34, "AtomTablesModel", gclX12, by decide, kw_1169, Or.inl rfl⟩
theorem fX12_58_11w : gk_Fl RX12 58 11 30 (tyX12 30) true := ⟨RX12, TX12, 34, "AtomTablesModel", gclX12, by decide, kw_1169, Or.inl rfl, tyX12_ok 30 (by decide), rfl, fun _ => rfl⟩
theorem kw_1170 : Cond.fieldLink "AtomTablesModel" 61 "AtomTablesModel" "keptSizes" "[I" ∈ gk_T := gk_in (t5k (List.mem_of_getElem? (i := 127) rfl)) rfl
theorem fX12_61_11 : gk_Fg RX12 61 11 31 := ⟨RX12, TX12, 34, "AtomTablesModel", gclX12, by decide, kw_1170, Or.inl rfl⟩
theorem fX12_61_11w : gk_Fl RX12 61 11 31 (tyX12 31) true := ⟨RX12, TX12, 34, "AtomTablesModel", gclX12, by decide, kw_1170, Or.inl rfl, tyX12_ok 31 (by decide), rfl, fun _ => rfl⟩
theorem kw_1171 : Cond.fieldLink "AtomTablesModel" 64 "AtomTablesModel" "keptLabels" "[I" ∈ gk_T := gk_in (t5k (List.mem_of_getElem? (i := 128) rfl)) rfl
theorem fX12_64_11 : gk_Fg RX12 64 11 32 := ⟨RX12, TX12, 34, "AtomTablesModel", gclX12, by decide, kw_1171, Or.inl rfl⟩
theorem fX12_64_11w : gk_Fl RX12 64 11 32 (tyX12 32) true := ⟨RX12, TX12, 34, "AtomTablesModel", gclX12, by decide, kw_1171, Or.inl rfl, tyX12_ok 32 (by decide), rfl, fun _ => rfl⟩
theorem kw_1144 : Cond.fieldLink "AtomTablesModel" 74 "AtomTablesModel" "isForbidden" "Z" ∈ gk_T := gk_in (t5k (List.mem_of_getElem? (i := 101) rfl)) rfl
theorem fX12_74_11 : gk_Fg RX12 74 11 5 := ⟨RX12, TX12, 34, "AtomTablesModel", gclX12, by decide, kw_1144, Or.inl rfl⟩
theorem fX12_74_11w : gk_Fl RX12 74 11 5 (tyX12 5) false := ⟨RX12, TX12, 34, "AtomTablesModel", gclX12, by decide, kw_1144, Or.inl rfl, tyX12_ok 5 (by decide), rfl, fun q => by cases q⟩
theorem kw_1145 : Cond.fieldLink "AtomTablesModel" 78 "AtomTablesModel" "isBoard" "Z" ∈ gk_T := gk_in (t5k (List.mem_of_getElem? (i := 102) rfl)) rfl
theorem fX12_78_11 : gk_Fg RX12 78 11 6 := ⟨RX12, TX12, 34, "AtomTablesModel", gclX12, by decide, kw_1145, Or.inl rfl⟩
theorem fX12_78_11w : gk_Fl RX12 78 11 6 (tyX12 6) false := ⟨RX12, TX12, 34, "AtomTablesModel", gclX12, by decide, kw_1145, Or.inl rfl, tyX12_ok 6 (by decide), rfl, fun q => by cases q⟩
theorem kw_1149 : Cond.fieldLink "AtomTablesModel" 174 "AtomTablesModel" "seen" "I" ∈ gk_T := gk_in (t5k (List.mem_of_getElem? (i := 106) rfl)) rfl
theorem fX12_174_11 : gk_Fg RX12 174 11 10 := ⟨RX12, TX12, 34, "AtomTablesModel", gclX12, by decide, kw_1149, Or.inl rfl⟩
theorem fX12_174_11w : gk_Fl RX12 174 11 10 (tyX12 10) false := ⟨RX12, TX12, 34, "AtomTablesModel", gclX12, by decide, kw_1149, Or.inl rfl, tyX12_ok 10 (by decide), rfl, fun q => by cases q⟩
theorem kw_1150 : Cond.fieldLink "AtomTablesModel" 177 "AtomTablesModel" "sought" "I" ∈ gk_T := gk_in (t5k (List.mem_of_getElem? (i := 107) rfl)) rfl
theorem fX12_177_11 : gk_Fg RX12 177 11 11 := ⟨RX12, TX12, 34, "AtomTablesModel", gclX12, by decide, kw_1150, Or.inl rfl⟩
theorem fX12_177_11w : gk_Fl RX12 177 11 11 (tyX12 11) false := ⟨RX12, TX12, 34, "AtomTablesModel", gclX12, by decide, kw_1150, Or.inl rfl, tyX12_ok 11 (by decide), rfl, fun q => by cases q⟩
theorem kw_1151 : Cond.fieldLink "AtomTablesModel" 180 "AtomTablesModel" "found" "I" ∈ gk_T := gk_in (t5k (List.mem_of_getElem? (i := 108) rfl)) rfl
theorem fX12_180_11 : gk_Fg RX12 180 11 12 := ⟨RX12, TX12, 34, "AtomTablesModel", gclX12, by decide, kw_1151, Or.inl rfl⟩
theorem fX12_180_11w : gk_Fl RX12 180 11 12 (tyX12 12) false := ⟨RX12, TX12, 34, "AtomTablesModel", gclX12, by decide, kw_1151, Or.inl rfl, tyX12_ok 12 (by decide), rfl, fun q => by cases q⟩
theorem kw_1147 : Cond.fieldLink "AtomTablesModel" 226 "AtomTablesModel" "asked" "I" ∈ gk_T := gk_in (t5k (List.mem_of_getElem? (i := 104) rfl)) rfl
theorem fX12_226_11 : gk_Fg RX12 226 11 8 := ⟨RX12, TX12, 34, "AtomTablesModel", gclX12, by decide, kw_1147, Or.inl rfl⟩
theorem fX12_226_11w : gk_Fl RX12 226 11 8 (tyX12 8) false := ⟨RX12, TX12, 34, "AtomTablesModel", gclX12, by decide, kw_1147, Or.inl rfl, tyX12_ok 8 (by decide), rfl, fun q => by cases q⟩
theorem kw_1148 : Cond.fieldLink "AtomTablesModel" 229 "AtomTablesModel" "answered" "I" ∈ gk_T := gk_in (t5k (List.mem_of_getElem? (i := 105) rfl)) rfl
theorem fX12_229_11 : gk_Fg RX12 229 11 9 := ⟨RX12, TX12, 34, "AtomTablesModel", gclX12, by decide, kw_1148, Or.inl rfl⟩
theorem fX12_229_11w : gk_Fl RX12 229 11 9 (tyX12 9) false := ⟨RX12, TX12, 34, "AtomTablesModel", gclX12, by decide, kw_1148, Or.inl rfl, tyX12_ok 9 (by decide), rfl, fun q => by cases q⟩
theorem kw_1152 : Cond.fieldLink "AtomTablesModel" 235 "AtomTablesModel" "points" "I" ∈ gk_T := gk_in (t5k (List.mem_of_getElem? (i := 109) rfl)) rfl
theorem fX12_235_11 : gk_Fg RX12 235 11 13 := ⟨RX12, TX12, 34, "AtomTablesModel", gclX12, by decide, kw_1152, Or.inl rfl⟩
theorem fX12_235_11w : gk_Fl RX12 235 11 13 (tyX12 13) false := ⟨RX12, TX12, 34, "AtomTablesModel", gclX12, by decide, kw_1152, Or.inl rfl, tyX12_ok 13 (by decide), rfl, fun q => by cases q⟩
theorem kw_1159 : Cond.fieldLink "AtomTablesModel" 261 "AtomTablesModel" "taped" "I" ∈ gk_T := gk_in (t5k (List.mem_of_getElem? (i := 116) rfl)) rfl
theorem fX12_261_11 : gk_Fg RX12 261 11 20 := ⟨RX12, TX12, 34, "AtomTablesModel", gclX12, by decide, kw_1159, Or.inl rfl⟩
theorem fX12_261_11w : gk_Fl RX12 261 11 20 (tyX12 20) false := ⟨RX12, TX12, 34, "AtomTablesModel", gclX12, by decide, kw_1159, Or.inl rfl, tyX12_ok 20 (by decide), rfl, fun q => by cases q⟩
theorem kw_1161 : Cond.fieldLink "AtomTablesModel" 264 "AtomTablesModel" "at" "I" ∈ gk_T := gk_in (t5k (List.mem_of_getElem? (i := 118) rfl)) rfl
theorem fX12_264_11 : gk_Fg RX12 264 11 22 := ⟨RX12, TX12, 34, "AtomTablesModel", gclX12, by decide, kw_1161, Or.inl rfl⟩
theorem fX12_264_11w : gk_Fl RX12 264 11 22 (tyX12 22) false := ⟨RX12, TX12, 34, "AtomTablesModel", gclX12, by decide, kw_1161, Or.inl rfl, tyX12_ok 22 (by decide), rfl, fun q => by cases q⟩
theorem kw_1160 : Cond.fieldLink "AtomTablesModel" 267 "AtomTablesModel" "size" "I" ∈ gk_T := gk_in (t5k (List.mem_of_getElem? (i := 117) rfl)) rfl
theorem fX12_267_11 : gk_Fg RX12 267 11 21 := ⟨RX12, TX12, 34, "AtomTablesModel", gclX12, by decide, kw_1160, Or.inl rfl⟩
theorem fX12_267_11w : gk_Fl RX12 267 11 21 (tyX12 21) false := ⟨RX12, TX12, 34, "AtomTablesModel", gclX12, by decide, kw_1160, Or.inl rfl, tyX12_ok 21 (by decide), rfl, fun q => by cases q⟩
theorem kw_1163 : Cond.fieldLink "AtomTablesModel" 290 "AtomTablesModel" "signs" "I" ∈ gk_T := gk_in (t5k (List.mem_of_getElem? (i := 120) rfl)) rfl
theorem fX12_290_11 : gk_Fg RX12 290 11 24 := ⟨RX12, TX12, 34, "AtomTablesModel", gclX12, by decide, kw_1163, Or.inl rfl⟩
theorem fX12_290_11w : gk_Fl RX12 290 11 24 (tyX12 24) false := ⟨RX12, TX12, 34, "AtomTablesModel", gclX12, by decide, kw_1163, Or.inl rfl, tyX12_ok 24 (by decide), rfl, fun q => by cases q⟩
theorem kw_1164 : Cond.fieldLink "AtomTablesModel" 293 "AtomTablesModel" "wanted" "I" ∈ gk_T := gk_in (t5k (List.mem_of_getElem? (i := 121) rfl)) rfl
theorem fX12_293_11 : gk_Fg RX12 293 11 25 := ⟨RX12, TX12, 34, "AtomTablesModel", gclX12, by decide, kw_1164, Or.inl rfl⟩
theorem fX12_293_11w : gk_Fl RX12 293 11 25 (tyX12 25) false := ⟨RX12, TX12, 34, "AtomTablesModel", gclX12, by decide, kw_1164, Or.inl rfl, tyX12_ok 25 (by decide), rfl, fun q => by cases q⟩
theorem kw_1165 : Cond.fieldLink "AtomTablesModel" 296 "AtomTablesModel" "sign" "I" ∈ gk_T := gk_in (t5k (List.mem_of_getElem? (i := 122) rfl)) rfl
theorem fX12_296_11 : gk_Fg RX12 296 11 26 := ⟨RX12, TX12, 34, "AtomTablesModel", gclX12, by decide, kw_1165, Or.inl rfl⟩
theorem fX12_296_11w : gk_Fl RX12 296 11 26 (tyX12 26) false := ⟨RX12, TX12, 34, "AtomTablesModel", gclX12, by decide, kw_1165, Or.inl rfl, tyX12_ok 26 (by decide), rfl, fun q => by cases q⟩
theorem kw_1166 : Cond.fieldLink "AtomTablesModel" 312 "AtomTablesModel" "isKept" "Z" ∈ gk_T := gk_in (t5k (List.mem_of_getElem? (i := 123) rfl)) rfl
theorem fX12_312_11 : gk_Fg RX12 312 11 27 := ⟨RX12, TX12, 34, "AtomTablesModel", gclX12, by decide, kw_1166, Or.inl rfl⟩
theorem fX12_312_11w : gk_Fl RX12 312 11 27 (tyX12 27) false := ⟨RX12, TX12, 34, "AtomTablesModel", gclX12, by decide, kw_1166, Or.inl rfl, tyX12_ok 27 (by decide), rfl, fun q => by cases q⟩
theorem kw_1167 : Cond.fieldLink "AtomTablesModel" 315 "AtomTablesModel" "keptAtoms" "I" ∈ gk_T := gk_in (t5k (List.mem_of_getElem? (i := 124) rfl)) rfl
theorem fX12_315_11 : gk_Fg RX12 315 11 28 := ⟨RX12, TX12, 34, "AtomTablesModel", gclX12, by decide, kw_1167, Or.inl rfl⟩
theorem fX12_315_11w : gk_Fl RX12 315 11 28 (tyX12 28) false := ⟨RX12, TX12, 34, "AtomTablesModel", gclX12, by decide, kw_1167, Or.inl rfl, tyX12_ok 28 (by decide), rfl, fun q => by cases q⟩
theorem kw_1172 : Cond.fieldLink "AtomTablesModel" 318 "AtomTablesModel" "keptForbidden" "Z" ∈ gk_T := gk_in (t5k (List.mem_of_getElem? (i := 129) rfl)) rfl
theorem fX12_318_11 : gk_Fg RX12 318 11 33 := ⟨RX12, TX12, 34, "AtomTablesModel", gclX12, by decide, kw_1172, Or.inl rfl⟩
theorem fX12_318_11w : gk_Fl RX12 318 11 33 (tyX12 33) false := ⟨RX12, TX12, 34, "AtomTablesModel", gclX12, by decide, kw_1172, Or.inl rfl, tyX12_ok 33 (by decide), rfl, fun q => by cases q⟩
theorem kw_1636 : Cond.fieldLink "java/lang/String" 9 "java/lang/String" "value" "[B" ∈ gk_T := gk_in (t7k (List.mem_of_getElem? (i := 113) rfl)) rfl
theorem kw_1637 : Cond.fieldLink "java/lang/String" 15 "java/lang/String" "coder" "B" ∈ gk_T := gk_in (t7k (List.mem_of_getElem? (i := 114) rfl)) rfl
theorem kw_1006 : Cond.fieldLink "java/lang/String" 38 "java/lang/String" "COMPACT_STRINGS" "Z" ∈ gk_T := gk_in (t4k (List.mem_of_getElem? (i := 203) rfl)) rfl
theorem kw_1022 : Cond.fieldLink "java/lang/String" 1053 "jdk/internal/util/Preconditions" "SIOOBE_FORMATTER" "Ljava/util/function/BiFunction;" ∈ gk_T := gk_in (t4k (List.mem_of_getElem? (i := 219) rfl)) rfl
theorem kw_1040 : Cond.fieldLink "java/lang/StringUTF16" 44 "java/lang/StringUTF16" "$assertionsDisabled" "Z" ∈ gk_T := gk_in (t4k (List.mem_of_getElem? (i := 237) rfl)) rfl
theorem kw_1042 : Cond.fieldLink "java/lang/StringUTF16" 59 "java/lang/StringUTF16" "HI_BYTE_SHIFT" "I" ∈ gk_T := gk_in (t4k (List.mem_of_getElem? (i := 239) rfl)) rfl
theorem kw_1044 : Cond.fieldLink "java/lang/StringUTF16" 63 "java/lang/StringUTF16" "LO_BYTE_SHIFT" "I" ∈ gk_T := gk_in (t5k (List.mem_of_getElem? (i := 1) rfl)) rfl
theorem kw_109 : Cond.methodLink "AtomTables" 3 objectInit ∈ gk_T := gk_in (t1k (List.mem_of_getElem? (i := 26) rfl)) rfl
theorem kw_114 : Cond.methodLink "AtomTables" 11 yX7_init ∈ gk_T := gk_in (t1k (List.mem_of_getElem? (i := 31) rfl)) rfl
theorem kw_115 : Cond.instanceMethod yX7_init ∈ gk_T := gk_in (t1k (List.mem_of_getElem? (i := 32) rfl)) rfl
theorem kw_85 : Cond.initialized "AtomTables$Sheet" ∈ gk_T := gk_in (t1k (List.mem_of_getElem? (i := 2) rfl)) rfl
theorem ciX11_11 : gk_Ci RX11 11 mX7_init 0 := ⟨okX7_init, kw_114, kw_115, kw_85, rfl, rfl⟩
theorem kw_203 : Cond.methodLink "AtomTables" 27 yX4_init ∈ gk_T := gk_in (t1k (List.mem_of_getElem? (i := 120) rfl)) rfl
theorem kw_204 : Cond.instanceMethod yX4_init ∈ gk_T := gk_in (t1k (List.mem_of_getElem? (i := 121) rfl)) rfl
theorem kw_89 : Cond.initialized "AtomTables$Patterns" ∈ gk_T := gk_in (t1k (List.mem_of_getElem? (i := 6) rfl)) rfl
theorem ciX11_27 : gk_Ci RX11 27 mX4_init 1 := ⟨okX4_init, kw_203, kw_204, kw_89, rfl, rfl⟩
theorem kw_248 : Cond.methodLink "AtomTables" 36 yX1_init ∈ gk_T := gk_in (t1k (List.mem_of_getElem? (i := 165) rfl)) rfl
theorem kw_249 : Cond.instanceMethod yX1_init ∈ gk_T := gk_in (t1k (List.mem_of_getElem? (i := 166) rfl)) rfl
theorem kw_90 : Cond.initialized "AtomTables$Filler" ∈ gk_T := gk_in (t1k (List.mem_of_getElem? (i := 7) rfl)) rfl
theorem ciX11_36 : gk_Ci RX11 36 mX1_init 2 := ⟨okX1_init, kw_248, kw_249, kw_90, rfl, rfl⟩
theorem kw_290 : Cond.methodLink "AtomTables" 45 yX2_init ∈ gk_T := gk_in (t1k (List.mem_of_getElem? (i := 207) rfl)) rfl
theorem kw_291 : Cond.instanceMethod yX2_init ∈ gk_T := gk_in (t1k (List.mem_of_getElem? (i := 208) rfl)) rfl
theorem kw_92 : Cond.initialized "AtomTables$Game" ∈ gk_T := gk_in (t1k (List.mem_of_getElem? (i := 9) rfl)) rfl
theorem ciX11_45 : gk_Ci RX11 45 mX2_init 2 := ⟨okX2_init, kw_290, kw_291, kw_92, rfl, rfl⟩
theorem kw_319 : Cond.methodLink "AtomTables" 56 yX0_init ∈ gk_T := gk_in (t1k (List.mem_of_getElem? (i := 236) rfl)) rfl
theorem kw_320 : Cond.instanceMethod yX0_init ∈ gk_T := gk_in (t1k (List.mem_of_getElem? (i := 237) rfl)) rfl
theorem kw_93 : Cond.initialized "AtomTables$Board" ∈ gk_T := gk_in (t1k (List.mem_of_getElem? (i := 10) rfl)) rfl
theorem ciX11_56 : gk_Ci RX11 56 mX0_init 1 := ⟨okX0_init, kw_319, kw_320, kw_93, rfl, rfl⟩
theorem kw_351 : Cond.methodLink "AtomTables" 65 yX5_init ∈ gk_T := gk_in (t2k (List.mem_of_getElem? (i := 28) rfl)) rfl
theorem kw_352 : Cond.instanceMethod yX5_init ∈ gk_T := gk_in (t2k (List.mem_of_getElem? (i := 29) rfl)) rfl
theorem kw_94 : Cond.initialized "AtomTables$Pictures" ∈ gk_T := gk_in (t1k (List.mem_of_getElem? (i := 11) rfl)) rfl
theorem ciX11_65 : gk_Ci RX11 65 mX5_init 1 := ⟨okX5_init, kw_351, kw_352, kw_94, rfl, rfl⟩
theorem kw_375 : Cond.methodLink "AtomTables" 80 yX9_init ∈ gk_T := gk_in (t2k (List.mem_of_getElem? (i := 52) rfl)) rfl
theorem kw_376 : Cond.instanceMethod yX9_init ∈ gk_T := gk_in (t2k (List.mem_of_getElem? (i := 53) rfl)) rfl
theorem kw_95 : Cond.initialized "AtomTables$Tape" ∈ gk_T := gk_in (t1k (List.mem_of_getElem? (i := 12) rfl)) rfl
theorem ciX11_80 : gk_Ci RX11 80 mX9_init 0 := ⟨okX9_init, kw_375, kw_376, kw_95, rfl, rfl⟩
theorem kw_431 : Cond.methodLink "AtomTables" 94 yX8_restart ∈ gk_T := gk_in (t2k (List.mem_of_getElem? (i := 108) rfl)) rfl
theorem kw_125 : Cond.instanceMethod yX8_restart ∈ gk_T := gk_in (t1k (List.mem_of_getElem? (i := 42) rfl)) rfl
theorem kw_126 : Cond.selects "AtomTables$Table" yX8_restart yX8_restart ∈ gk_T := gk_in (t1k (List.mem_of_getElem? (i := 43) rfl)) rfl
theorem kw_86 : Cond.initialized "AtomTables$Table" ∈ gk_T := gk_in (t1k (List.mem_of_getElem? (i := 3) rfl)) rfl
theorem cvX11_94 : gk_Cv RX11 94 mX8_restart 8 1 := ⟨okX8_restart, ⟨_, _, rfl⟩, kw_431, kw_125, kw_126, kw_86⟩
theorem kw_432 : Cond.methodLink "AtomTables" 98 yX11_forgetNetworks ∈ gk_T := gk_in (t2k (List.mem_of_getElem? (i := 109) rfl)) rfl
theorem kw_434 : Cond.instanceMethod yX11_forgetNetworks ∈ gk_T := gk_in (t2k (List.mem_of_getElem? (i := 111) rfl)) rfl
theorem kw_1 : Cond.selects "AtomTables" yX11_forgetNetworks yX11_forgetNetworks ∈ gk_T := gk_in (p1k (List.mem_of_getElem? (i := 1) rfl)) rfl
theorem kw_84 : Cond.initialized "AtomTables" ∈ gk_T := gk_in (t1k (List.mem_of_getElem? (i := 1) rfl)) rfl
theorem cvX11_98 : gk_Cv RX11 98 mX11_forgetNetworks 10 0 := ⟨okX11_forgetNetworks, ⟨_, _, rfl⟩, kw_432, kw_434, kw_1, kw_84⟩
theorem kw_444 : Cond.methodLink "AtomTables" 101 yX11_isAtomButZero ∈ gk_T := gk_in (t2k (List.mem_of_getElem? (i := 121) rfl)) rfl
theorem kw_446 : Cond.instanceMethod yX11_isAtomButZero ∈ gk_T := gk_in (t2k (List.mem_of_getElem? (i := 123) rfl)) rfl
theorem kw_2 : Cond.selects "AtomTables" yX11_isAtomButZero yX11_isAtomButZero ∈ gk_T := gk_in (p1k (List.mem_of_getElem? (i := 2) rfl)) rfl
theorem cvX11_101 : gk_Cv RX11 101 mX11_isAtomButZero 10 1 := ⟨okX11_isAtomButZero, ⟨_, _, rfl⟩, kw_444, kw_446, kw_2, kw_84⟩
theorem kw_448 : Cond.methodLink "AtomTables" 105 yX8_couple ∈ gk_T := gk_in (t2k (List.mem_of_getElem? (i := 125) rfl)) rfl
theorem kw_449 : Cond.instanceMethod yX8_couple ∈ gk_T := gk_in (t2k (List.mem_of_getElem? (i := 126) rfl)) rfl
theorem kw_450 : Cond.selects "AtomTables$Table" yX8_couple yX8_couple ∈ gk_T := gk_in (t2k (List.mem_of_getElem? (i := 127) rfl)) rfl
theorem cvX11_105 : gk_Cv RX11 105 mX8_couple 8 2 := ⟨okX8_couple, ⟨_, _, rfl⟩, kw_448, kw_449, kw_450, kw_86⟩
theorem kw_456 : Cond.methodLink "AtomTables" 109 yX8_coupled ∈ gk_T := gk_in (t2k (List.mem_of_getElem? (i := 133) rfl)) rfl
theorem kw_457 : Cond.instanceMethod yX8_coupled ∈ gk_T := gk_in (t2k (List.mem_of_getElem? (i := 134) rfl)) rfl
theorem kw_458 : Cond.selects "AtomTables$Table" yX8_coupled yX8_coupled ∈ gk_T := gk_in (t2k (List.mem_of_getElem? (i := 135) rfl)) rfl
theorem cvX11_109 : gk_Cv RX11 109 mX8_coupled 8 0 := ⟨okX8_coupled, ⟨_, _, rfl⟩, kw_456, kw_457, kw_458, kw_86⟩
theorem kw_464 : Cond.methodLink "AtomTables" 113 yX11_isRelation ∈ gk_T := gk_in (t2k (List.mem_of_getElem? (i := 141) rfl)) rfl
theorem kw_466 : Cond.instanceMethod yX11_isRelation ∈ gk_T := gk_in (t2k (List.mem_of_getElem? (i := 143) rfl)) rfl
theorem kw_4 : Cond.selects "AtomTables" yX11_isRelation yX11_isRelation ∈ gk_T := gk_in (p1k (List.mem_of_getElem? (i := 4) rfl)) rfl
theorem cvX11_113 : gk_Cv RX11 113 mX11_isRelation 10 1 := ⟨okX11_isRelation, ⟨_, _, rfl⟩, kw_464, kw_466, kw_4, kw_84⟩
theorem kw_472 : Cond.methodLink "AtomTables" 116 yX8_mirrored ∈ gk_T := gk_in (t2k (List.mem_of_getElem? (i := 149) rfl)) rfl
theorem kw_473 : Cond.instanceMethod yX8_mirrored ∈ gk_T := gk_in (t2k (List.mem_of_getElem? (i := 150) rfl)) rfl
theorem kw_474 : Cond.selects "AtomTables$Table" yX8_mirrored yX8_mirrored ∈ gk_T := gk_in (t2k (List.mem_of_getElem? (i := 151) rfl)) rfl
theorem cvX11_116 : gk_Cv RX11 116 mX8_mirrored 8 1 := ⟨okX8_mirrored, ⟨_, _, rfl⟩, kw_472, kw_473, kw_474, kw_86⟩
theorem kw_480 : Cond.methodLink "AtomTables" 120 yX11_isAtom ∈ gk_T := gk_in (t2k (List.mem_of_getElem? (i := 157) rfl)) rfl
theorem kw_482 : Cond.instanceMethod yX11_isAtom ∈ gk_T := gk_in (t2k (List.mem_of_getElem? (i := 159) rfl)) rfl
theorem kw_5 : Cond.selects "AtomTables" yX11_isAtom yX11_isAtom ∈ gk_T := gk_in (p1k (List.mem_of_getElem? (i := 5) rfl)) rfl
theorem cvX11_120 : gk_Cv RX11 120 mX11_isAtom 10 1 := ⟨okX11_isAtom, ⟨_, _, rfl⟩, kw_480, kw_482, kw_5, kw_84⟩
theorem kw_484 : Cond.methodLink "AtomTables" 123 yX8_mark ∈ gk_T := gk_in (t2k (List.mem_of_getElem? (i := 161) rfl)) rfl
theorem kw_485 : Cond.instanceMethod yX8_mark ∈ gk_T := gk_in (t2k (List.mem_of_getElem? (i := 162) rfl)) rfl
theorem kw_486 : Cond.selects "AtomTables$Table" yX8_mark yX8_mark ∈ gk_T := gk_in (t2k (List.mem_of_getElem? (i := 163) rfl)) rfl
theorem cvX11_123 : gk_Cv RX11 123 mX8_mark 8 4 := ⟨okX8_mark, ⟨_, _, rfl⟩, kw_484, kw_485, kw_486, kw_86⟩
theorem kw_503 : Cond.methodLink "AtomTables" 127 yX8_has ∈ gk_T := gk_in (t2k (List.mem_of_getElem? (i := 180) rfl)) rfl
theorem kw_504 : Cond.instanceMethod yX8_has ∈ gk_T := gk_in (t2k (List.mem_of_getElem? (i := 181) rfl)) rfl
theorem kw_505 : Cond.selects "AtomTables$Table" yX8_has yX8_has ∈ gk_T := gk_in (t2k (List.mem_of_getElem? (i := 182) rfl)) rfl
theorem cvX11_127 : gk_Cv RX11 127 mX8_has 8 3 := ⟨okX8_has, ⟨_, _, rfl⟩, kw_503, kw_504, kw_505, kw_86⟩
theorem kw_511 : Cond.methodLink "AtomTables" 131 yX8_product ∈ gk_T := gk_in (t2k (List.mem_of_getElem? (i := 188) rfl)) rfl
theorem kw_512 : Cond.instanceMethod yX8_product ∈ gk_T := gk_in (t2k (List.mem_of_getElem? (i := 189) rfl)) rfl
theorem kw_513 : Cond.selects "AtomTables$Table" yX8_product yX8_product ∈ gk_T := gk_in (t2k (List.mem_of_getElem? (i := 190) rfl)) rfl
theorem cvX11_131 : gk_Cv RX11 131 mX8_product 8 2 := ⟨okX8_product, ⟨_, _, rfl⟩, kw_511, kw_512, kw_513, kw_86⟩
theorem kw_519 : Cond.methodLink "AtomTables" 135 yX11_isSide ∈ gk_T := gk_in (t2k (List.mem_of_getElem? (i := 196) rfl)) rfl
theorem kw_520 : Cond.static yX11_isSide ∈ gk_T := gk_in (t2k (List.mem_of_getElem? (i := 197) rfl)) rfl
theorem csX11_135 : gk_Cs RX11 135 mX11_isSide 1 := ⟨okX11_isSide, kw_519, kw_520, kw_84⟩
theorem kw_522 : Cond.methodLink "AtomTables" 138 yX8_residual ∈ gk_T := gk_in (t2k (List.mem_of_getElem? (i := 199) rfl)) rfl
theorem kw_523 : Cond.instanceMethod yX8_residual ∈ gk_T := gk_in (t2k (List.mem_of_getElem? (i := 200) rfl)) rfl
theorem kw_524 : Cond.selects "AtomTables$Table" yX8_residual yX8_residual ∈ gk_T := gk_in (t2k (List.mem_of_getElem? (i := 201) rfl)) rfl
theorem cvX11_138 : gk_Cv RX11 138 mX8_residual 8 3 := ⟨okX8_residual, ⟨_, _, rfl⟩, kw_522, kw_523, kw_524, kw_86⟩
theorem kw_535 : Cond.methodLink "AtomTables" 142 yX8_powers ∈ gk_T := gk_in (t2k (List.mem_of_getElem? (i := 212) rfl)) rfl
theorem kw_536 : Cond.instanceMethod yX8_powers ∈ gk_T := gk_in (t2k (List.mem_of_getElem? (i := 213) rfl)) rfl
theorem kw_537 : Cond.selects "AtomTables$Table" yX8_powers yX8_powers ∈ gk_T := gk_in (t2k (List.mem_of_getElem? (i := 214) rfl)) rfl
theorem cvX11_142 : gk_Cv RX11 142 mX8_powers 8 2 := ⟨okX8_powers, ⟨_, _, rfl⟩, kw_535, kw_536, kw_537, kw_86⟩
theorem kw_468 : Cond.methodLink "AtomTables" 146 yX8_relations ∈ gk_T := gk_in (t2k (List.mem_of_getElem? (i := 145) rfl)) rfl
theorem kw_469 : Cond.instanceMethod yX8_relations ∈ gk_T := gk_in (t2k (List.mem_of_getElem? (i := 146) rfl)) rfl
theorem kw_470 : Cond.selects "AtomTables$Table" yX8_relations yX8_relations ∈ gk_T := gk_in (t2k (List.mem_of_getElem? (i := 147) rfl)) rfl
theorem cvX11_146 : gk_Cv RX11 146 mX8_relations 8 0 := ⟨okX8_relations, ⟨_, _, rfl⟩, kw_468, kw_469, kw_470, kw_86⟩
theorem kw_544 : Cond.methodLink "AtomTables" 149 yX8_isEquivalence ∈ gk_T := gk_in (t2k (List.mem_of_getElem? (i := 221) rfl)) rfl
theorem kw_545 : Cond.instanceMethod yX8_isEquivalence ∈ gk_T := gk_in (t2k (List.mem_of_getElem? (i := 222) rfl)) rfl
theorem kw_546 : Cond.selects "AtomTables$Table" yX8_isEquivalence yX8_isEquivalence ∈ gk_T := gk_in (t2k (List.mem_of_getElem? (i := 223) rfl)) rfl
theorem cvX11_149 : gk_Cv RX11 149 mX8_isEquivalence 8 1 := ⟨okX8_isEquivalence, ⟨_, _, rfl⟩, kw_544, kw_545, kw_546, kw_86⟩
theorem kw_553 : Cond.methodLink "AtomTables" 152 yX8_solutions ∈ gk_T := gk_in (t2k (List.mem_of_getElem? (i := 230) rfl)) rfl
theorem kw_554 : Cond.instanceMethod yX8_solutions ∈ gk_T := gk_in (t2k (List.mem_of_getElem? (i := 231) rfl)) rfl
theorem kw_555 : Cond.selects "AtomTables$Table" yX8_solutions yX8_solutions ∈ gk_T := gk_in (t2k (List.mem_of_getElem? (i := 232) rfl)) rfl
theorem cvX11_152 : gk_Cv RX11 152 mX8_solutions 8 4 := ⟨okX8_solutions, ⟨_, _, rfl⟩, kw_553, kw_554, kw_555, kw_86⟩
theorem kw_561 : Cond.methodLink "AtomTables" 156 yX8_unbalanced ∈ gk_T := gk_in (t2k (List.mem_of_getElem? (i := 238) rfl)) rfl
theorem kw_562 : Cond.instanceMethod yX8_unbalanced ∈ gk_T := gk_in (t2k (List.mem_of_getElem? (i := 239) rfl)) rfl
theorem kw_563 : Cond.selects "AtomTables$Table" yX8_unbalanced yX8_unbalanced ∈ gk_T := gk_in (t3k (List.mem_of_getElem? (i := 0) rfl)) rfl
theorem cvX11_156 : gk_Cv RX11 156 mX8_unbalanced 8 1 := ⟨okX8_unbalanced, ⟨_, _, rfl⟩, kw_561, kw_562, kw_563, kw_86⟩
theorem kw_569 : Cond.methodLink "AtomTables" 160 yX8_thin ∈ gk_T := gk_in (t3k (List.mem_of_getElem? (i := 6) rfl)) rfl
theorem kw_570 : Cond.instanceMethod yX8_thin ∈ gk_T := gk_in (t3k (List.mem_of_getElem? (i := 7) rfl)) rfl
theorem kw_571 : Cond.selects "AtomTables$Table" yX8_thin yX8_thin ∈ gk_T := gk_in (t3k (List.mem_of_getElem? (i := 8) rfl)) rfl
theorem cvX11_160 : gk_Cv RX11 160 mX8_thin 8 1 := ⟨okX8_thin, ⟨_, _, rfl⟩, kw_569, kw_570, kw_571, kw_86⟩
theorem kw_577 : Cond.methodLink "AtomTables" 167 yJ13_bitCount_95d88 ∈ gk_T := gk_in (t3k (List.mem_of_getElem? (i := 14) rfl)) rfl
theorem kw_494 : Cond.static yJ13_bitCount_95d88 ∈ gk_T := gk_in (t2k (List.mem_of_getElem? (i := 171) rfl)) rfl
theorem kw_97 : Cond.initialized "java/lang/Long" ∈ gk_T := gk_in (t1k (List.mem_of_getElem? (i := 14) rfl)) rfl
theorem csX11_167 : gk_Cs RX11 167 mJ13_bitCount_95d88 1 := ⟨okJ13_bitCount_95d88, kw_577, kw_494, kw_97⟩
theorem kw_578 : Cond.methodLink "AtomTables" 171 yX8_cycleFacts ∈ gk_T := gk_in (t3k (List.mem_of_getElem? (i := 15) rfl)) rfl
theorem kw_579 : Cond.instanceMethod yX8_cycleFacts ∈ gk_T := gk_in (t3k (List.mem_of_getElem? (i := 16) rfl)) rfl
theorem kw_580 : Cond.selects "AtomTables$Table" yX8_cycleFacts yX8_cycleFacts ∈ gk_T := gk_in (t3k (List.mem_of_getElem? (i := 17) rfl)) rfl
theorem cvX11_171 : gk_Cv RX11 171 mX8_cycleFacts 8 1 := ⟨okX8_cycleFacts, ⟨_, _, rfl⟩, kw_578, kw_579, kw_580, kw_86⟩
theorem kw_594 : Cond.methodLink "AtomTables" 174 yX11_isNet ∈ gk_T := gk_in (t3k (List.mem_of_getElem? (i := 31) rfl)) rfl
theorem kw_595 : Cond.static yX11_isNet ∈ gk_T := gk_in (t3k (List.mem_of_getElem? (i := 32) rfl)) rfl
theorem csX11_174 : gk_Cs RX11 174 mX11_isNet 1 := ⟨okX11_isNet, kw_594, kw_595, kw_84⟩
theorem kw_597 : Cond.methodLink "AtomTables" 184 yX1_spread ∈ gk_T := gk_in (t3k (List.mem_of_getElem? (i := 34) rfl)) rfl
theorem kw_598 : Cond.instanceMethod yX1_spread ∈ gk_T := gk_in (t3k (List.mem_of_getElem? (i := 35) rfl)) rfl
theorem kw_599 : Cond.selects "AtomTables$Filler" yX1_spread yX1_spread ∈ gk_T := gk_in (t3k (List.mem_of_getElem? (i := 36) rfl)) rfl
theorem cvX11_184 : gk_Cv RX11 184 mX1_spread 1 2 := ⟨okX1_spread, ⟨_, _, rfl⟩, kw_597, kw_598, kw_599, kw_90⟩
theorem kw_601 : Cond.methodLink "AtomTables" 191 yX3_grow ∈ gk_T := gk_in (t3k (List.mem_of_getElem? (i := 38) rfl)) rfl
theorem kw_602 : Cond.instanceMethod yX3_grow ∈ gk_T := gk_in (t3k (List.mem_of_getElem? (i := 39) rfl)) rfl
theorem kw_603 : Cond.selects "AtomTables$Net" yX3_grow yX3_grow ∈ gk_T := gk_in (t3k (List.mem_of_getElem? (i := 40) rfl)) rfl
theorem kw_87 : Cond.initialized "AtomTables$Net" ∈ gk_T := gk_in (t1k (List.mem_of_getElem? (i := 4) rfl)) rfl
theorem cvX11_191 : gk_Cv RX11 191 mX3_grow 3 2 := ⟨okX3_grow, ⟨_, _, rfl⟩, kw_601, kw_602, kw_603, kw_87⟩
theorem kw_617 : Cond.methodLink "AtomTables" 195 yX11_isNode ∈ gk_T := gk_in (t3k (List.mem_of_getElem? (i := 54) rfl)) rfl
theorem kw_619 : Cond.instanceMethod yX11_isNode ∈ gk_T := gk_in (t3k (List.mem_of_getElem? (i := 56) rfl)) rfl
theorem kw_8 : Cond.selects "AtomTables" yX11_isNode yX11_isNode ∈ gk_T := gk_in (p1k (List.mem_of_getElem? (i := 8) rfl)) rfl
theorem cvX11_195 : gk_Cv RX11 195 mX11_isNode 10 2 := ⟨okX11_isNode, ⟨_, _, rfl⟩, kw_617, kw_619, kw_8, kw_84⟩
theorem kw_621 : Cond.methodLink "AtomTables" 198 yX3_at ∈ gk_T := gk_in (t3k (List.mem_of_getElem? (i := 58) rfl)) rfl
theorem kw_622 : Cond.instanceMethod yX3_at ∈ gk_T := gk_in (t3k (List.mem_of_getElem? (i := 59) rfl)) rfl
theorem kw_623 : Cond.selects "AtomTables$Net" yX3_at yX3_at ∈ gk_T := gk_in (t3k (List.mem_of_getElem? (i := 60) rfl)) rfl
theorem cvX11_198 : gk_Cv RX11 198 mX3_at 3 2 := ⟨okX3_at, ⟨_, _, rfl⟩, kw_621, kw_622, kw_623, kw_87⟩
theorem kw_629 : Cond.methodLink "AtomTables" 201 yX3_link ∈ gk_T := gk_in (t3k (List.mem_of_getElem? (i := 66) rfl)) rfl
theorem kw_606 : Cond.instanceMethod yX3_link ∈ gk_T := gk_in (t3k (List.mem_of_getElem? (i := 43) rfl)) rfl
theorem kw_607 : Cond.selects "AtomTables$Net" yX3_link yX3_link ∈ gk_T := gk_in (t3k (List.mem_of_getElem? (i := 44) rfl)) rfl
theorem cvX11_201 : gk_Cv RX11 201 mX3_link 3 4 := ⟨okX3_link, ⟨_, _, rfl⟩, kw_629, kw_606, kw_607, kw_87⟩
theorem kw_634 : Cond.methodLink "AtomTables" 205 yX3_become ∈ gk_T := gk_in (t3k (List.mem_of_getElem? (i := 71) rfl)) rfl
theorem kw_635 : Cond.instanceMethod yX3_become ∈ gk_T := gk_in (t3k (List.mem_of_getElem? (i := 72) rfl)) rfl
theorem kw_636 : Cond.selects "AtomTables$Net" yX3_become yX3_become ∈ gk_T := gk_in (t3k (List.mem_of_getElem? (i := 73) rfl)) rfl
theorem cvX11_205 : gk_Cv RX11 205 mX3_become 3 1 := ⟨okX3_become, ⟨_, _, rfl⟩, kw_634, kw_635, kw_636, kw_87⟩
theorem kw_642 : Cond.methodLink "AtomTables" 209 yX3_unsound ∈ gk_T := gk_in (t3k (List.mem_of_getElem? (i := 79) rfl)) rfl
theorem kw_643 : Cond.instanceMethod yX3_unsound ∈ gk_T := gk_in (t3k (List.mem_of_getElem? (i := 80) rfl)) rfl
theorem kw_644 : Cond.selects "AtomTables$Net" yX3_unsound yX3_unsound ∈ gk_T := gk_in (t3k (List.mem_of_getElem? (i := 81) rfl)) rfl
theorem cvX11_209 : gk_Cv RX11 209 mX3_unsound 3 1 := ⟨okX3_unsound, ⟨_, _, rfl⟩, kw_642, kw_643, kw_644, kw_87⟩
theorem kw_652 : Cond.methodLink "AtomTables" 213 yX3_gapAt ∈ gk_T := gk_in (t3k (List.mem_of_getElem? (i := 89) rfl)) rfl
theorem kw_653 : Cond.instanceMethod yX3_gapAt ∈ gk_T := gk_in (t3k (List.mem_of_getElem? (i := 90) rfl)) rfl
theorem kw_654 : Cond.selects "AtomTables$Net" yX3_gapAt yX3_gapAt ∈ gk_T := gk_in (t3k (List.mem_of_getElem? (i := 91) rfl)) rfl
theorem cvX11_213 : gk_Cv RX11 213 mX3_gapAt 3 2 := ⟨okX3_gapAt, ⟨_, _, rfl⟩, kw_652, kw_653, kw_654, kw_87⟩
theorem kw_676 : Cond.methodLink "AtomTables" 217 yX3_lacks ∈ gk_T := gk_in (t3k (List.mem_of_getElem? (i := 113) rfl)) rfl
theorem kw_677 : Cond.instanceMethod yX3_lacks ∈ gk_T := gk_in (t3k (List.mem_of_getElem? (i := 114) rfl)) rfl
theorem kw_678 : Cond.selects "AtomTables$Net" yX3_lacks yX3_lacks ∈ gk_T := gk_in (t3k (List.mem_of_getElem? (i := 115) rfl)) rfl
theorem cvX11_217 : gk_Cv RX11 217 mX3_lacks 3 2 := ⟨okX3_lacks, ⟨_, _, rfl⟩, kw_676, kw_677, kw_678, kw_87⟩
theorem kw_680 : Cond.methodLink "AtomTables" 221 yX1_way ∈ gk_T := gk_in (t3k (List.mem_of_getElem? (i := 117) rfl)) rfl
theorem kw_681 : Cond.instanceMethod yX1_way ∈ gk_T := gk_in (t3k (List.mem_of_getElem? (i := 118) rfl)) rfl
theorem kw_682 : Cond.selects "AtomTables$Filler" yX1_way yX1_way ∈ gk_T := gk_in (t3k (List.mem_of_getElem? (i := 119) rfl)) rfl
theorem cvX11_221 : gk_Cv RX11 221 mX1_way 1 3 := ⟨okX1_way, ⟨_, _, rfl⟩, kw_680, kw_681, kw_682, kw_90⟩
theorem kw_771 : Cond.methodLink "AtomTables" 225 yX4_way ∈ gk_T := gk_in (t3k (List.mem_of_getElem? (i := 208) rfl)) rfl
theorem kw_772 : Cond.instanceMethod yX4_way ∈ gk_T := gk_in (t3k (List.mem_of_getElem? (i := 209) rfl)) rfl
theorem kw_773 : Cond.selects "AtomTables$Patterns" yX4_way yX4_way ∈ gk_T := gk_in (t3k (List.mem_of_getElem? (i := 210) rfl)) rfl
theorem cvX11_225 : gk_Cv RX11 225 mX4_way 4 3 := ⟨okX4_way, ⟨_, _, rfl⟩, kw_771, kw_772, kw_773, kw_89⟩
theorem kw_790 : Cond.methodLink "AtomTables" 235 yX11_gameRefusal ∈ gk_T := gk_in (t3k (List.mem_of_getElem? (i := 227) rfl)) rfl
theorem kw_792 : Cond.instanceMethod yX11_gameRefusal ∈ gk_T := gk_in (t3k (List.mem_of_getElem? (i := 229) rfl)) rfl
theorem kw_12 : Cond.selects "AtomTables" yX11_gameRefusal yX11_gameRefusal ∈ gk_T := gk_in (p1k (List.mem_of_getElem? (i := 12) rfl)) rfl
theorem cvX11_235 : gk_Cv RX11 235 mX11_gameRefusal 10 2 := ⟨okX11_gameRefusal, ⟨_, _, rfl⟩, kw_790, kw_792, kw_12, kw_84⟩
theorem kw_799 : Cond.methodLink "AtomTables" 238 yX2_isWon ∈ gk_T := gk_in (t3k (List.mem_of_getElem? (i := 236) rfl)) rfl
theorem kw_800 : Cond.instanceMethod yX2_isWon ∈ gk_T := gk_in (t3k (List.mem_of_getElem? (i := 237) rfl)) rfl
theorem kw_801 : Cond.selects "AtomTables$Game" yX2_isWon yX2_isWon ∈ gk_T := gk_in (t3k (List.mem_of_getElem? (i := 238) rfl)) rfl
theorem cvX11_238 : gk_Cv RX11 238 mX2_isWon 2 2 := ⟨okX2_isWon, ⟨_, _, rfl⟩, kw_799, kw_800, kw_801, kw_92⟩
theorem kw_839 : Cond.methodLink "AtomTables" 242 yX2_firstLeft ∈ gk_T := gk_in (t4k (List.mem_of_getElem? (i := 36) rfl)) rfl
theorem kw_840 : Cond.instanceMethod yX2_firstLeft ∈ gk_T := gk_in (t4k (List.mem_of_getElem? (i := 37) rfl)) rfl
theorem kw_841 : Cond.selects "AtomTables$Game" yX2_firstLeft yX2_firstLeft ∈ gk_T := gk_in (t4k (List.mem_of_getElem? (i := 38) rfl)) rfl
theorem cvX11_242 : gk_Cv RX11 242 mX2_firstLeft 2 1 := ⟨okX2_firstLeft, ⟨_, _, rfl⟩, kw_839, kw_840, kw_841, kw_92⟩
theorem kw_794 : Cond.methodLink "AtomTables" 245 yX11_isPlayable ∈ gk_T := gk_in (t3k (List.mem_of_getElem? (i := 231) rfl)) rfl
theorem kw_796 : Cond.instanceMethod yX11_isPlayable ∈ gk_T := gk_in (t3k (List.mem_of_getElem? (i := 233) rfl)) rfl
theorem kw_13 : Cond.selects "AtomTables" yX11_isPlayable yX11_isPlayable ∈ gk_T := gk_in (p1k (List.mem_of_getElem? (i := 13) rfl)) rfl
theorem cvX11_245 : gk_Cv RX11 245 mX11_isPlayable 10 1 := ⟨okX11_isPlayable, ⟨_, _, rfl⟩, kw_794, kw_796, kw_13, kw_84⟩
theorem kw_853 : Cond.methodLink "AtomTables" 249 yX0_lay ∈ gk_T := gk_in (t4k (List.mem_of_getElem? (i := 50) rfl)) rfl
theorem kw_854 : Cond.instanceMethod yX0_lay ∈ gk_T := gk_in (t4k (List.mem_of_getElem? (i := 51) rfl)) rfl
theorem kw_855 : Cond.selects "AtomTables$Board" yX0_lay yX0_lay ∈ gk_T := gk_in (t4k (List.mem_of_getElem? (i := 52) rfl)) rfl
theorem cvX11_249 : gk_Cv RX11 249 mX0_lay 0 1 := ⟨okX0_lay, ⟨_, _, rfl⟩, kw_853, kw_854, kw_855, kw_93⟩
theorem kw_872 : Cond.methodLink "AtomTables" 264 yX1_isFilledBy ∈ gk_T := gk_in (t4k (List.mem_of_getElem? (i := 69) rfl)) rfl
theorem kw_873 : Cond.instanceMethod yX1_isFilledBy ∈ gk_T := gk_in (t4k (List.mem_of_getElem? (i := 70) rfl)) rfl
theorem kw_874 : Cond.selects "AtomTables$Filler" yX1_isFilledBy yX1_isFilledBy ∈ gk_T := gk_in (t4k (List.mem_of_getElem? (i := 71) rfl)) rfl
theorem cvX11_264 : gk_Cv RX11 264 mX1_isFilledBy 1 3 := ⟨okX1_isFilledBy, ⟨_, _, rfl⟩, kw_872, kw_873, kw_874, kw_90⟩
theorem kw_879 : Cond.methodLink "AtomTables" 268 yX0_extend ∈ gk_T := gk_in (t4k (List.mem_of_getElem? (i := 76) rfl)) rfl
theorem kw_880 : Cond.instanceMethod yX0_extend ∈ gk_T := gk_in (t4k (List.mem_of_getElem? (i := 77) rfl)) rfl
theorem kw_881 : Cond.selects "AtomTables$Board" yX0_extend yX0_extend ∈ gk_T := gk_in (t4k (List.mem_of_getElem? (i := 78) rfl)) rfl
theorem cvX11_268 : gk_Cv RX11 268 mX0_extend 0 1 := ⟨okX0_extend, ⟨_, _, rfl⟩, kw_879, kw_880, kw_881, kw_93⟩
theorem kw_893 : Cond.methodLink "AtomTables" 272 yX0_rotate ∈ gk_T := gk_in (t4k (List.mem_of_getElem? (i := 90) rfl)) rfl
theorem kw_894 : Cond.instanceMethod yX0_rotate ∈ gk_T := gk_in (t4k (List.mem_of_getElem? (i := 91) rfl)) rfl
theorem kw_895 : Cond.selects "AtomTables$Board" yX0_rotate yX0_rotate ∈ gk_T := gk_in (t4k (List.mem_of_getElem? (i := 92) rfl)) rfl
theorem cvX11_272 : gk_Cv RX11 272 mX0_rotate 0 0 := ⟨okX0_rotate, ⟨_, _, rfl⟩, kw_893, kw_894, kw_895, kw_93⟩
theorem kw_909 : Cond.methodLink "AtomTables" 278 yX11_isList ∈ gk_T := gk_in (t4k (List.mem_of_getElem? (i := 106) rfl)) rfl
theorem kw_910 : Cond.static yX11_isList ∈ gk_T := gk_in (t4k (List.mem_of_getElem? (i := 107) rfl)) rfl
theorem csX11_278 : gk_Cs RX11 278 mX11_isList 1 := ⟨okX11_isList, kw_909, kw_910, kw_84⟩
theorem kw_912 : Cond.methodLink "AtomTables" 281 yX5_verdict ∈ gk_T := gk_in (t4k (List.mem_of_getElem? (i := 109) rfl)) rfl
theorem kw_913 : Cond.instanceMethod yX5_verdict ∈ gk_T := gk_in (t4k (List.mem_of_getElem? (i := 110) rfl)) rfl
theorem kw_914 : Cond.selects "AtomTables$Pictures" yX5_verdict yX5_verdict ∈ gk_T := gk_in (t4k (List.mem_of_getElem? (i := 111) rfl)) rfl
theorem cvX11_281 : gk_Cv RX11 281 mX5_verdict 5 3 := ⟨okX5_verdict, ⟨_, _, rfl⟩, kw_912, kw_913, kw_914, kw_94⟩
theorem kw_937 : Cond.methodLink "AtomTables" 285 yX5_search ∈ gk_T := gk_in (t4k (List.mem_of_getElem? (i := 134) rfl)) rfl
theorem kw_938 : Cond.instanceMethod yX5_search ∈ gk_T := gk_in (t4k (List.mem_of_getElem? (i := 135) rfl)) rfl
theorem kw_939 : Cond.selects "AtomTables$Pictures" yX5_search yX5_search ∈ gk_T := gk_in (t4k (List.mem_of_getElem? (i := 136) rfl)) rfl
theorem cvX11_285 : gk_Cv RX11 285 mX5_search 5 0 := ⟨okX5_search, ⟨_, _, rfl⟩, kw_937, kw_938, kw_939, kw_94⟩
theorem kw_969 : Cond.methodLink "AtomTables" 294 yX9_append ∈ gk_T := gk_in (t4k (List.mem_of_getElem? (i := 166) rfl)) rfl
theorem kw_970 : Cond.instanceMethod yX9_append ∈ gk_T := gk_in (t4k (List.mem_of_getElem? (i := 167) rfl)) rfl
theorem kw_971 : Cond.selects "AtomTables$Tape" yX9_append yX9_append ∈ gk_T := gk_in (t4k (List.mem_of_getElem? (i := 168) rfl)) rfl
theorem cvX11_294 : gk_Cv RX11 294 mX9_append 9 1 := ⟨okX9_append, ⟨_, _, rfl⟩, kw_969, kw_970, kw_971, kw_95⟩
theorem kw_981 : Cond.methodLink "AtomTables" 297 yX9_faultPlace ∈ gk_T := gk_in (t4k (List.mem_of_getElem? (i := 178) rfl)) rfl
theorem kw_982 : Cond.instanceMethod yX9_faultPlace ∈ gk_T := gk_in (t4k (List.mem_of_getElem? (i := 179) rfl)) rfl
theorem kw_983 : Cond.selects "AtomTables$Tape" yX9_faultPlace yX9_faultPlace ∈ gk_T := gk_in (t4k (List.mem_of_getElem? (i := 180) rfl)) rfl
theorem cvX11_297 : gk_Cv RX11 297 mX9_faultPlace 9 0 := ⟨okX9_faultPlace, ⟨_, _, rfl⟩, kw_981, kw_982, kw_983, kw_95⟩
theorem kw_1061 : Cond.methodLink "AtomTables" 300 yX11_perform ∈ gk_T := gk_in (t5k (List.mem_of_getElem? (i := 18) rfl)) rfl
theorem kw_1063 : Cond.instanceMethod yX11_perform ∈ gk_T := gk_in (t5k (List.mem_of_getElem? (i := 20) rfl)) rfl
theorem kw_28 : Cond.selects "AtomTables" yX11_perform yX11_perform ∈ gk_T := gk_in (p2k (List.mem_of_getElem? (i := 12) rfl)) rfl
theorem cvX11_300 : gk_Cv RX11 300 mX11_perform 10 0 := ⟨okX11_perform, ⟨_, _, rfl⟩, kw_1061, kw_1063, kw_28, kw_84⟩
theorem kw_1083 : Cond.methodLink "AtomTables" 303 yX9_spell ∈ gk_T := gk_in (t5k (List.mem_of_getElem? (i := 40) rfl)) rfl
theorem kw_1084 : Cond.instanceMethod yX9_spell ∈ gk_T := gk_in (t5k (List.mem_of_getElem? (i := 41) rfl)) rfl
theorem kw_1085 : Cond.selects "AtomTables$Tape" yX9_spell yX9_spell ∈ gk_T := gk_in (t5k (List.mem_of_getElem? (i := 42) rfl)) rfl
theorem cvX11_303 : gk_Cv RX11 303 mX9_spell 9 1 := ⟨okX9_spell, ⟨_, _, rfl⟩, kw_1083, kw_1084, kw_1085, kw_95⟩
theorem kw_1108 : Cond.methodLink "AtomTables" 310 yX7_become ∈ gk_T := gk_in (t5k (List.mem_of_getElem? (i := 65) rfl)) rfl
theorem kw_1109 : Cond.instanceMethod yX7_become ∈ gk_T := gk_in (t5k (List.mem_of_getElem? (i := 66) rfl)) rfl
theorem kw_1110 : Cond.selects "AtomTables$Sheet" yX7_become yX7_become ∈ gk_T := gk_in (t5k (List.mem_of_getElem? (i := 67) rfl)) rfl
theorem cvX11_310 : gk_Cv RX11 310 mX7_become 7 1 := ⟨okX7_become, ⟨_, _, rfl⟩, kw_1108, kw_1109, kw_1110, kw_85⟩
theorem kw_1125 : Cond.methodLink "AtomTables" 312 yX11_listsPresent ∈ gk_T := gk_in (t5k (List.mem_of_getElem? (i := 82) rfl)) rfl
theorem kw_1127 : Cond.instanceMethod yX11_listsPresent ∈ gk_T := gk_in (t5k (List.mem_of_getElem? (i := 84) rfl)) rfl
theorem kw_33 : Cond.selects "AtomTables" yX11_listsPresent yX11_listsPresent ∈ gk_T := gk_in (p3k (List.mem_of_getElem? (i := 1) rfl)) rfl
theorem cvX11_312 : gk_Cv RX11 312 mX11_listsPresent 10 0 := ⟨okX11_listsPresent, ⟨_, _, rfl⟩, kw_1125, kw_1127, kw_33, kw_84⟩
theorem kw_436 : Cond.methodLink "AtomTables" 315 yX7_clearNets ∈ gk_T := gk_in (t2k (List.mem_of_getElem? (i := 113) rfl)) rfl
theorem kw_437 : Cond.instanceMethod yX7_clearNets ∈ gk_T := gk_in (t2k (List.mem_of_getElem? (i := 114) rfl)) rfl
theorem kw_438 : Cond.selects "AtomTables$Sheet" yX7_clearNets yX7_clearNets ∈ gk_T := gk_in (t2k (List.mem_of_getElem? (i := 115) rfl)) rfl
theorem cvX11_315 : gk_Cv RX11 315 mX7_clearNets 7 0 := ⟨okX7_clearNets, ⟨_, _, rfl⟩, kw_436, kw_437, kw_438, kw_85⟩
theorem kw_798 : Cond.methodLink "AtomTables" 318 yX4_isBarred ∈ gk_T := gk_in (t3k (List.mem_of_getElem? (i := 235) rfl)) rfl
theorem kw_742 : Cond.instanceMethod yX4_isBarred ∈ gk_T := gk_in (t3k (List.mem_of_getElem? (i := 179) rfl)) rfl
theorem kw_743 : Cond.selects "AtomTables$Patterns" yX4_isBarred yX4_isBarred ∈ gk_T := gk_in (t3k (List.mem_of_getElem? (i := 180) rfl)) rfl
theorem cvX11_318 : gk_Cv RX11 318 mX4_isBarred 4 1 := ⟨okX4_isBarred, ⟨_, _, rfl⟩, kw_798, kw_742, kw_743, kw_89⟩
theorem kw_1065 : Cond.methodLink "AtomTables" 321 yX9_wordEnd ∈ gk_T := gk_in (t5k (List.mem_of_getElem? (i := 22) rfl)) rfl
theorem kw_986 : Cond.instanceMethod yX9_wordEnd ∈ gk_T := gk_in (t4k (List.mem_of_getElem? (i := 183) rfl)) rfl
theorem kw_987 : Cond.selects "AtomTables$Tape" yX9_wordEnd yX9_wordEnd ∈ gk_T := gk_in (t4k (List.mem_of_getElem? (i := 184) rfl)) rfl
theorem cvX11_321 : gk_Cv RX11 321 mX9_wordEnd 9 1 := ⟨okX9_wordEnd, ⟨_, _, rfl⟩, kw_1065, kw_986, kw_987, kw_95⟩
theorem kw_1066 : Cond.methodLink "AtomTables" 324 yX9_wordKind ∈ gk_T := gk_in (t5k (List.mem_of_getElem? (i := 23) rfl)) rfl
theorem kw_990 : Cond.instanceMethod yX9_wordKind ∈ gk_T := gk_in (t4k (List.mem_of_getElem? (i := 187) rfl)) rfl
theorem kw_991 : Cond.selects "AtomTables$Tape" yX9_wordKind yX9_wordKind ∈ gk_T := gk_in (t4k (List.mem_of_getElem? (i := 188) rfl)) rfl
theorem cvX11_324 : gk_Cv RX11 324 mX9_wordKind 9 2 := ⟨okX9_wordKind, ⟨_, _, rfl⟩, kw_1066, kw_990, kw_991, kw_95⟩
theorem kw_1067 : Cond.methodLink "AtomTables" 327 yX11_statement ∈ gk_T := gk_in (t5k (List.mem_of_getElem? (i := 24) rfl)) rfl
theorem kw_1069 : Cond.instanceMethod yX11_statement ∈ gk_T := gk_in (t5k (List.mem_of_getElem? (i := 26) rfl)) rfl
theorem kw_29 : Cond.selects "AtomTables" yX11_statement yX11_statement ∈ gk_T := gk_in (p2k (List.mem_of_getElem? (i := 13) rfl)) rfl
theorem cvX11_327 : gk_Cv RX11 327 mX11_statement 10 2 := ⟨okX11_statement, ⟨_, _, rfl⟩, kw_1067, kw_1069, kw_29, kw_84⟩
theorem kw_1078 : Cond.methodLink "AtomTables" 330 yX9_figuresOf ∈ gk_T := gk_in (t5k (List.mem_of_getElem? (i := 35) rfl)) rfl
theorem kw_1050 : Cond.instanceMethod yX9_figuresOf ∈ gk_T := gk_in (t5k (List.mem_of_getElem? (i := 7) rfl)) rfl
theorem kw_1051 : Cond.selects "AtomTables$Tape" yX9_figuresOf yX9_figuresOf ∈ gk_T := gk_in (t5k (List.mem_of_getElem? (i := 8) rfl)) rfl
theorem cvX11_330 : gk_Cv RX11 330 mX9_figuresOf 9 1 := ⟨okX9_figuresOf, ⟨_, _, rfl⟩, kw_1078, kw_1050, kw_1051, kw_95⟩
theorem kw_1071 : Cond.methodLink "AtomTables" 333 yX9_figure ∈ gk_T := gk_in (t5k (List.mem_of_getElem? (i := 28) rfl)) rfl
theorem kw_1072 : Cond.instanceMethod yX9_figure ∈ gk_T := gk_in (t5k (List.mem_of_getElem? (i := 29) rfl)) rfl
theorem kw_1073 : Cond.selects "AtomTables$Tape" yX9_figure yX9_figure ∈ gk_T := gk_in (t5k (List.mem_of_getElem? (i := 30) rfl)) rfl
theorem cvX11_333 : gk_Cv RX11 333 mX9_figure 9 1 := ⟨okX9_figure, ⟨_, _, rfl⟩, kw_1071, kw_1072, kw_1073, kw_95⟩
theorem kw_1075 : Cond.methodLink "AtomTables" 336 yX11_atoms ∈ gk_T := gk_in (t5k (List.mem_of_getElem? (i := 32) rfl)) rfl
theorem kw_428 : Cond.instanceMethod yX11_atoms ∈ gk_T := gk_in (t2k (List.mem_of_getElem? (i := 105) rfl)) rfl
theorem kw_429 : Cond.selects "AtomTables" yX11_atoms yX11_atoms ∈ gk_T := gk_in (t2k (List.mem_of_getElem? (i := 106) rfl)) rfl
theorem cvX11_336 : gk_Cv RX11 336 mX11_atoms 10 1 := ⟨okX11_atoms, ⟨_, _, rfl⟩, kw_1075, kw_428, kw_429, kw_84⟩
theorem kw_1076 : Cond.methodLink "AtomTables" 339 yX11_pair ∈ gk_T := gk_in (t5k (List.mem_of_getElem? (i := 33) rfl)) rfl
theorem kw_441 : Cond.instanceMethod yX11_pair ∈ gk_T := gk_in (t2k (List.mem_of_getElem? (i := 118) rfl)) rfl
theorem kw_442 : Cond.selects "AtomTables" yX11_pair yX11_pair ∈ gk_T := gk_in (t2k (List.mem_of_getElem? (i := 119) rfl)) rfl
theorem cvX11_339 : gk_Cv RX11 339 mX11_pair 10 2 := ⟨okX11_pair, ⟨_, _, rfl⟩, kw_1076, kw_441, kw_442, kw_84⟩
theorem kw_1077 : Cond.methodLink "AtomTables" 342 yX11_triangle ∈ gk_T := gk_in (t5k (List.mem_of_getElem? (i := 34) rfl)) rfl
theorem kw_477 : Cond.instanceMethod yX11_triangle ∈ gk_T := gk_in (t2k (List.mem_of_getElem? (i := 154) rfl)) rfl
theorem kw_478 : Cond.selects "AtomTables" yX11_triangle yX11_triangle ∈ gk_T := gk_in (t2k (List.mem_of_getElem? (i := 155) rfl)) rfl
theorem cvX11_342 : gk_Cv RX11 342 mX11_triangle 10 4 := ⟨okX11_triangle, ⟨_, _, rfl⟩, kw_1077, kw_477, kw_478, kw_84⟩
theorem kw_322 : Cond.methodLink "AtomTables$Board" 3 objectInit ∈ gk_T := gk_in (t1k (List.mem_of_getElem? (i := 239) rfl)) rfl
theorem kw_324 : Cond.methodLink "AtomTables$Board" 17 yX3_init ∈ gk_T := gk_in (t2k (List.mem_of_getElem? (i := 1) rfl)) rfl
theorem kw_162 : Cond.instanceMethod yX3_init ∈ gk_T := gk_in (t1k (List.mem_of_getElem? (i := 79) rfl)) rfl
theorem ciX0_17 : gk_Ci RX0 17 mX3_init 0 := ⟨okX3_init, kw_324, kw_162, kw_87, rfl, rfl⟩
theorem kw_857 : Cond.methodLink "AtomTables$Board" 37 yX3_become ∈ gk_T := gk_in (t4k (List.mem_of_getElem? (i := 54) rfl)) rfl
theorem cvX0_37 : gk_Cv RX0 37 mX3_become 3 1 := ⟨okX3_become, ⟨_, _, rfl⟩, kw_857, kw_635, kw_636, kw_87⟩
theorem kw_858 : Cond.methodLink "AtomTables$Board" 44 yX0_append ∈ gk_T := gk_in (t4k (List.mem_of_getElem? (i := 55) rfl)) rfl
theorem kw_860 : Cond.instanceMethod yX0_append ∈ gk_T := gk_in (t4k (List.mem_of_getElem? (i := 57) rfl)) rfl
theorem kw_20 : Cond.selects "AtomTables$Board" yX0_append yX0_append ∈ gk_T := gk_in (p2k (List.mem_of_getElem? (i := 4) rfl)) rfl
theorem cvX0_44 : gk_Cv RX0 44 mX0_append 0 2 := ⟨okX0_append, ⟨_, _, rfl⟩, kw_858, kw_860, kw_20, kw_93⟩
theorem kw_862 : Cond.methodLink "AtomTables$Board" 48 yX3_open ∈ gk_T := gk_in (t4k (List.mem_of_getElem? (i := 59) rfl)) rfl
theorem kw_657 : Cond.instanceMethod yX3_open ∈ gk_T := gk_in (t3k (List.mem_of_getElem? (i := 94) rfl)) rfl
theorem kw_658 : Cond.selects "AtomTables$Net" yX3_open yX3_open ∈ gk_T := gk_in (t3k (List.mem_of_getElem? (i := 95) rfl)) rfl
theorem cvX0_48 : gk_Cv RX0 48 mX3_open 3 3 := ⟨okX3_open, ⟨_, _, rfl⟩, kw_862, kw_657, kw_658, kw_87⟩
theorem kw_863 : Cond.methodLink "AtomTables$Board" 52 yX3_gapNumber ∈ gk_T := gk_in (t4k (List.mem_of_getElem? (i := 60) rfl)) rfl
theorem kw_670 : Cond.static yX3_gapNumber ∈ gk_T := gk_in (t3k (List.mem_of_getElem? (i := 107) rfl)) rfl
theorem csX0_52 : gk_Cs RX0 52 mX3_gapNumber 3 := ⟨okX3_gapNumber, kw_863, kw_670, kw_87⟩
theorem kw_883 : Cond.methodLink "AtomTables$Board" 56 yX3_grow ∈ gk_T := gk_in (t4k (List.mem_of_getElem? (i := 80) rfl)) rfl
theorem cvX0_56 : gk_Cv RX0 56 mX3_grow 3 2 := ⟨okX3_grow, ⟨_, _, rfl⟩, kw_883, kw_602, kw_603, kw_87⟩
theorem kw_884 : Cond.methodLink "AtomTables$Board" 60 yX0_dropClosed ∈ gk_T := gk_in (t4k (List.mem_of_getElem? (i := 81) rfl)) rfl
theorem kw_886 : Cond.instanceMethod yX0_dropClosed ∈ gk_T := gk_in (t4k (List.mem_of_getElem? (i := 83) rfl)) rfl
theorem kw_21 : Cond.selects "AtomTables$Board" yX0_dropClosed yX0_dropClosed ∈ gk_T := gk_in (p2k (List.mem_of_getElem? (i := 5) rfl)) rfl
theorem cvX0_60 : gk_Cv RX0 60 mX0_dropClosed 0 0 := ⟨okX0_dropClosed, ⟨_, _, rfl⟩, kw_884, kw_886, kw_21, kw_93⟩
theorem kw_888 : Cond.methodLink "AtomTables$Board" 63 yX3_lacks ∈ gk_T := gk_in (t4k (List.mem_of_getElem? (i := 85) rfl)) rfl
theorem cvX0_63 : gk_Cv RX0 63 mX3_lacks 3 2 := ⟨okX3_lacks, ⟨_, _, rfl⟩, kw_888, kw_677, kw_678, kw_87⟩
theorem kw_251 : Cond.methodLink "AtomTables$Filler" 3 objectInit ∈ gk_T := gk_in (t1k (List.mem_of_getElem? (i := 168) rfl)) rfl
theorem kw_253 : Cond.methodLink "AtomTables$Filler" 11 yX3_init ∈ gk_T := gk_in (t1k (List.mem_of_getElem? (i := 170) rfl)) rfl
theorem ciX1_11 : gk_Ci RX1 11 mX3_init 0 := ⟨okX3_init, kw_253, kw_162, kw_87, rfl, rfl⟩
theorem kw_256 : Cond.methodLink "AtomTables$Filler" 38 yX6_init ∈ gk_T := gk_in (t1k (List.mem_of_getElem? (i := 173) rfl)) rfl
theorem kw_257 : Cond.instanceMethod yX6_init ∈ gk_T := gk_in (t1k (List.mem_of_getElem? (i := 174) rfl)) rfl
theorem kw_91 : Cond.initialized "AtomTables$Rows" ∈ gk_T := gk_in (t1k (List.mem_of_getElem? (i := 8) rfl)) rfl
theorem ciX1_38 : gk_Ci RX1 38 mX6_init 2 := ⟨okX6_init, kw_256, kw_257, kw_91, rfl, rfl⟩
theorem kw_684 : Cond.methodLink "AtomTables$Filler" 51 yX3_become ∈ gk_T := gk_in (t3k (List.mem_of_getElem? (i := 121) rfl)) rfl
theorem cvX1_51 : gk_Cv RX1 51 mX3_become 3 1 := ⟨okX3_become, ⟨_, _, rfl⟩, kw_684, kw_635, kw_636, kw_87⟩
theorem kw_685 : Cond.methodLink "AtomTables$Filler" 55 yX6_spanAll ∈ gk_T := gk_in (t3k (List.mem_of_getElem? (i := 122) rfl)) rfl
theorem kw_686 : Cond.instanceMethod yX6_spanAll ∈ gk_T := gk_in (t3k (List.mem_of_getElem? (i := 123) rfl)) rfl
theorem kw_687 : Cond.selects "AtomTables$Rows" yX6_spanAll yX6_spanAll ∈ gk_T := gk_in (t3k (List.mem_of_getElem? (i := 124) rfl)) rfl
theorem cvX1_55 : gk_Cv RX1 55 mX6_spanAll 6 0 := ⟨okX6_spanAll, ⟨_, _, rfl⟩, kw_685, kw_686, kw_687, kw_91⟩
theorem kw_695 : Cond.methodLink "AtomTables$Filler" 58 ⟨"AtomTables$Rows", "hold", "(II)V"⟩ ∈ gk_T := gk_in (t3k (List.mem_of_getElem? (i := 132) rfl)) rfl
theorem kw_696 : Cond.sameMethod "AtomTables$Rows" "AtomTables$Wheels" "hold" "(II)V" ∈ gk_T := gk_in (t3k (List.mem_of_getElem? (i := 133) rfl)) rfl
theorem kw_698 : Cond.selects "AtomTables$Rows" ⟨"AtomTables$Rows", "hold", "(II)V"⟩ yX10_hold ∈ gk_T := gk_in (t3k (List.mem_of_getElem? (i := 135) rfl)) rfl
theorem kw_699 : Cond.instanceMethod yX10_hold ∈ gk_T := gk_in (t3k (List.mem_of_getElem? (i := 136) rfl)) rfl
theorem kw_88 : Cond.initialized "AtomTables$Wheels" ∈ gk_T := gk_in (t1k (List.mem_of_getElem? (i := 5) rfl)) rfl
theorem cuX1_58_6 : gk_Cu RX1 58 ⟨"AtomTables$Rows", "hold", "(II)V"⟩ RX10 mX10_hold 6 2 := ⟨okX10_hold, RX6, TX6, 6, rfl, Or.inl rfl, ⟨by decide +kernel, by decide +kernel, by decide +kernel⟩, kw_695, kw_696, kw_698, kw_699, kw_88⟩
theorem kw_701 : Cond.methodLink "AtomTables$Filler" 65 ⟨"AtomTables$Rows", "first", "()Z"⟩ ∈ gk_T := gk_in (t3k (List.mem_of_getElem? (i := 138) rfl)) rfl
theorem kw_702 : Cond.sameMethod "AtomTables$Rows" "AtomTables$Wheels" "first" "()Z" ∈ gk_T := gk_in (t3k (List.mem_of_getElem? (i := 139) rfl)) rfl
theorem kw_704 : Cond.selects "AtomTables$Rows" ⟨"AtomTables$Rows", "first", "()Z"⟩ yX10_first ∈ gk_T := gk_in (t3k (List.mem_of_getElem? (i := 141) rfl)) rfl
theorem kw_705 : Cond.instanceMethod yX10_first ∈ gk_T := gk_in (t3k (List.mem_of_getElem? (i := 142) rfl)) rfl
theorem cuX1_65_6 : gk_Cu RX1 65 ⟨"AtomTables$Rows", "first", "()Z"⟩ RX10 mX10_first 6 0 := ⟨okX10_first, RX6, TX6, 6, rfl, Or.inl rfl, ⟨by decide +kernel, by decide +kernel, by decide +kernel⟩, kw_701, kw_702, kw_704, kw_705, kw_88⟩
theorem kw_736 : Cond.methodLink "AtomTables$Filler" 73 yX1_isAllowed ∈ gk_T := gk_in (t3k (List.mem_of_getElem? (i := 173) rfl)) rfl
theorem kw_738 : Cond.instanceMethod yX1_isAllowed ∈ gk_T := gk_in (t3k (List.mem_of_getElem? (i := 175) rfl)) rfl
theorem kw_10 : Cond.selects "AtomTables$Filler" yX1_isAllowed yX1_isAllowed ∈ gk_T := gk_in (p1k (List.mem_of_getElem? (i := 10) rfl)) rfl
theorem cvX1_73 : gk_Cv RX1 73 mX1_isAllowed 1 1 := ⟨okX1_isAllowed, ⟨_, _, rfl⟩, kw_736, kw_738, kw_10, kw_90⟩
theorem kw_755 : Cond.methodLink "AtomTables$Filler" 77 ⟨"AtomTables$Rows", "digits", "(I)I"⟩ ∈ gk_T := gk_in (t3k (List.mem_of_getElem? (i := 192) rfl)) rfl
theorem kw_756 : Cond.sameMethod "AtomTables$Rows" "AtomTables$Wheels" "digits" "(I)I" ∈ gk_T := gk_in (t3k (List.mem_of_getElem? (i := 193) rfl)) rfl
theorem kw_758 : Cond.selects "AtomTables$Rows" ⟨"AtomTables$Rows", "digits", "(I)I"⟩ yX10_digits ∈ gk_T := gk_in (t3k (List.mem_of_getElem? (i := 195) rfl)) rfl
theorem kw_759 : Cond.instanceMethod yX10_digits ∈ gk_T := gk_in (t3k (List.mem_of_getElem? (i := 196) rfl)) rfl
theorem cuX1_77_6 : gk_Cu RX1 77 ⟨"AtomTables$Rows", "digits", "(I)I"⟩ RX10 mX10_digits 6 1 := ⟨okX10_digits, RX6, TX6, 6, rfl, Or.inl rfl, ⟨by decide +kernel, by decide +kernel, by decide +kernel⟩, kw_755, kw_756, kw_758, kw_759, kw_88⟩
theorem kw_761 : Cond.methodLink "AtomTables$Filler" 81 ⟨"AtomTables$Rows", "next", "()Z"⟩ ∈ gk_T := gk_in (t3k (List.mem_of_getElem? (i := 198) rfl)) rfl
theorem kw_762 : Cond.sameMethod "AtomTables$Rows" "AtomTables$Wheels" "next" "()Z" ∈ gk_T := gk_in (t3k (List.mem_of_getElem? (i := 199) rfl)) rfl
theorem kw_764 : Cond.selects "AtomTables$Rows" ⟨"AtomTables$Rows", "next", "()Z"⟩ yX10_next ∈ gk_T := gk_in (t3k (List.mem_of_getElem? (i := 201) rfl)) rfl
theorem kw_765 : Cond.instanceMethod yX10_next ∈ gk_T := gk_in (t3k (List.mem_of_getElem? (i := 202) rfl)) rfl
theorem cuX1_81_6 : gk_Cu RX1 81 ⟨"AtomTables$Rows", "next", "()Z"⟩ RX10 mX10_next 6 0 := ⟨okX10_next, RX6, TX6, 6, rfl, Or.inl rfl, ⟨by decide +kernel, by decide +kernel, by decide +kernel⟩, kw_761, kw_762, kw_764, kw_765, kw_88⟩
theorem kw_740 : Cond.methodLink "AtomTables$Filler" 84 yX3_grow ∈ gk_T := gk_in (t3k (List.mem_of_getElem? (i := 177) rfl)) rfl
theorem cvX1_84 : gk_Cv RX1 84 mX3_grow 3 2 := ⟨okX3_grow, ⟨_, _, rfl⟩, kw_740, kw_602, kw_603, kw_87⟩
theorem kw_741 : Cond.methodLink "AtomTables$Filler" 88 yX4_isBarred ∈ gk_T := gk_in (t3k (List.mem_of_getElem? (i := 178) rfl)) rfl
theorem cvX1_88 : gk_Cv RX1 88 mX4_isBarred 4 1 := ⟨okX4_isBarred, ⟨_, _, rfl⟩, kw_741, kw_742, kw_743, kw_89⟩
theorem kw_876 : Cond.methodLink "AtomTables$Filler" 95 yX3_lacks ∈ gk_T := gk_in (t4k (List.mem_of_getElem? (i := 73) rfl)) rfl
theorem cvX1_95 : gk_Cv RX1 95 mX3_lacks 3 2 := ⟨okX3_lacks, ⟨_, _, rfl⟩, kw_876, kw_677, kw_678, kw_87⟩
theorem kw_877 : Cond.methodLink "AtomTables$Filler" 99 yX1_spread ∈ gk_T := gk_in (t4k (List.mem_of_getElem? (i := 74) rfl)) rfl
theorem cvX1_99 : gk_Cv RX1 99 mX1_spread 1 2 := ⟨okX1_spread, ⟨_, _, rfl⟩, kw_877, kw_598, kw_599, kw_90⟩
theorem kw_878 : Cond.methodLink "AtomTables$Filler" 103 yX3_unsound ∈ gk_T := gk_in (t4k (List.mem_of_getElem? (i := 75) rfl)) rfl
theorem cvX1_103 : gk_Cv RX1 103 mX3_unsound 3 1 := ⟨okX3_unsound, ⟨_, _, rfl⟩, kw_878, kw_643, kw_644, kw_87⟩
theorem kw_293 : Cond.methodLink "AtomTables$Game" 3 objectInit ∈ gk_T := gk_in (t1k (List.mem_of_getElem? (i := 210) rfl)) rfl
theorem kw_295 : Cond.methodLink "AtomTables$Game" 11 yX3_init ∈ gk_T := gk_in (t1k (List.mem_of_getElem? (i := 212) rfl)) rfl
theorem ciX2_11 : gk_Ci RX2 11 mX3_init 0 := ⟨okX3_init, kw_295, kw_162, kw_87, rfl, rfl⟩
theorem kw_300 : Cond.methodLink "AtomTables$Game" 43 yX6_init ∈ gk_T := gk_in (t1k (List.mem_of_getElem? (i := 217) rfl)) rfl
theorem ciX2_43 : gk_Ci RX2 43 mX6_init 2 := ⟨okX6_init, kw_300, kw_257, kw_91, rfl, rfl⟩
theorem kw_803 : Cond.methodLink "AtomTables$Game" 46 yX3_become ∈ gk_T := gk_in (t4k (List.mem_of_getElem? (i := 0) rfl)) rfl
theorem cvX2_46 : gk_Cv RX2 46 mX3_become 3 1 := ⟨okX3_become, ⟨_, _, rfl⟩, kw_803, kw_635, kw_636, kw_87⟩
theorem kw_804 : Cond.methodLink "AtomTables$Game" 50 yX2_outlives ∈ gk_T := gk_in (t4k (List.mem_of_getElem? (i := 1) rfl)) rfl
theorem kw_806 : Cond.instanceMethod yX2_outlives ∈ gk_T := gk_in (t4k (List.mem_of_getElem? (i := 3) rfl)) rfl
theorem kw_14 : Cond.selects "AtomTables$Game" yX2_outlives yX2_outlives ∈ gk_T := gk_in (p1k (List.mem_of_getElem? (i := 14) rfl)) rfl
theorem cvX2_50 : gk_Cv RX2 50 mX2_outlives 2 1 := ⟨okX2_outlives, ⟨_, _, rfl⟩, kw_804, kw_806, kw_14, kw_92⟩
theorem kw_808 : Cond.methodLink "AtomTables$Game" 54 yX2_findGaps ∈ gk_T := gk_in (t4k (List.mem_of_getElem? (i := 5) rfl)) rfl
theorem kw_810 : Cond.instanceMethod yX2_findGaps ∈ gk_T := gk_in (t4k (List.mem_of_getElem? (i := 7) rfl)) rfl
theorem kw_15 : Cond.selects "AtomTables$Game" yX2_findGaps yX2_findGaps ∈ gk_T := gk_in (p1k (List.mem_of_getElem? (i := 15) rfl)) rfl
theorem cvX2_54 : gk_Cv RX2 54 mX2_findGaps 2 1 := ⟨okX2_findGaps, ⟨_, _, rfl⟩, kw_808, kw_810, kw_15, kw_92⟩
theorem kw_813 : Cond.methodLink "AtomTables$Game" 58 yX6_spanAll ∈ gk_T := gk_in (t4k (List.mem_of_getElem? (i := 10) rfl)) rfl
theorem cvX2_58 : gk_Cv RX2 58 mX6_spanAll 6 0 := ⟨okX6_spanAll, ⟨_, _, rfl⟩, kw_813, kw_686, kw_687, kw_91⟩
theorem kw_814 : Cond.methodLink "AtomTables$Game" 61 yX2_isOpen ∈ gk_T := gk_in (t4k (List.mem_of_getElem? (i := 11) rfl)) rfl
theorem kw_816 : Cond.instanceMethod yX2_isOpen ∈ gk_T := gk_in (t4k (List.mem_of_getElem? (i := 13) rfl)) rfl
theorem kw_16 : Cond.selects "AtomTables$Game" yX2_isOpen yX2_isOpen ∈ gk_T := gk_in (p2k (List.mem_of_getElem? (i := 0) rfl)) rfl
theorem cvX2_61 : gk_Cv RX2 61 mX2_isOpen 2 1 := ⟨okX2_isOpen, ⟨_, _, rfl⟩, kw_814, kw_816, kw_16, kw_92⟩
theorem kw_818 : Cond.methodLink "AtomTables$Game" 65 ⟨"AtomTables$Rows", "first", "()Z"⟩ ∈ gk_T := gk_in (t4k (List.mem_of_getElem? (i := 15) rfl)) rfl
theorem cuX2_65_6 : gk_Cu RX2 65 ⟨"AtomTables$Rows", "first", "()Z"⟩ RX10 mX10_first 6 0 := ⟨okX10_first, RX6, TX6, 6, rfl, Or.inl rfl, ⟨by decide +kernel, by decide +kernel, by decide +kernel⟩, kw_818, kw_702, kw_704, kw_705, kw_88⟩
theorem kw_820 : Cond.methodLink "AtomTables$Game" 74 yX2_answers ∈ gk_T := gk_in (t4k (List.mem_of_getElem? (i := 17) rfl)) rfl
theorem kw_822 : Cond.instanceMethod yX2_answers ∈ gk_T := gk_in (t4k (List.mem_of_getElem? (i := 19) rfl)) rfl
theorem kw_17 : Cond.selects "AtomTables$Game" yX2_answers yX2_answers ∈ gk_T := gk_in (p2k (List.mem_of_getElem? (i := 1) rfl)) rfl
theorem cvX2_74 : gk_Cv RX2 74 mX2_answers 2 2 := ⟨okX2_answers, ⟨_, _, rfl⟩, kw_820, kw_822, kw_17, kw_92⟩
theorem kw_824 : Cond.methodLink "AtomTables$Game" 78 yX2_stands ∈ gk_T := gk_in (t4k (List.mem_of_getElem? (i := 21) rfl)) rfl
theorem kw_826 : Cond.instanceMethod yX2_stands ∈ gk_T := gk_in (t4k (List.mem_of_getElem? (i := 23) rfl)) rfl
theorem kw_18 : Cond.selects "AtomTables$Game" yX2_stands yX2_stands ∈ gk_T := gk_in (p2k (List.mem_of_getElem? (i := 2) rfl)) rfl
theorem cvX2_78 : gk_Cv RX2 78 mX2_stands 2 2 := ⟨okX2_stands, ⟨_, _, rfl⟩, kw_824, kw_826, kw_18, kw_92⟩
theorem kw_830 : Cond.methodLink "AtomTables$Game" 82 yX2_strike ∈ gk_T := gk_in (t4k (List.mem_of_getElem? (i := 27) rfl)) rfl
theorem kw_832 : Cond.instanceMethod yX2_strike ∈ gk_T := gk_in (t4k (List.mem_of_getElem? (i := 29) rfl)) rfl
theorem kw_19 : Cond.selects "AtomTables$Game" yX2_strike yX2_strike ∈ gk_T := gk_in (p2k (List.mem_of_getElem? (i := 3) rfl)) rfl
theorem cvX2_82 : gk_Cv RX2 82 mX2_strike 2 2 := ⟨okX2_strike, ⟨_, _, rfl⟩, kw_830, kw_832, kw_19, kw_92⟩
theorem kw_834 : Cond.methodLink "AtomTables$Game" 86 ⟨"AtomTables$Rows", "next", "()Z"⟩ ∈ gk_T := gk_in (t4k (List.mem_of_getElem? (i := 31) rfl)) rfl
theorem cuX2_86_6 : gk_Cu RX2 86 ⟨"AtomTables$Rows", "next", "()Z"⟩ RX10 mX10_next 6 0 := ⟨okX10_next, RX6, TX6, 6, rfl, Or.inl rfl, ⟨by decide +kernel, by decide +kernel, by decide +kernel⟩, kw_834, kw_762, kw_764, kw_765, kw_88⟩
theorem kw_812 : Cond.methodLink "AtomTables$Game" 93 yX3_open ∈ gk_T := gk_in (t4k (List.mem_of_getElem? (i := 9) rfl)) rfl
theorem cvX2_93 : gk_Cv RX2 93 mX3_open 3 3 := ⟨okX3_open, ⟨_, _, rfl⟩, kw_812, kw_657, kw_658, kw_87⟩
theorem kw_828 : Cond.methodLink "AtomTables$Game" 102 yX3_grow ∈ gk_T := gk_in (t4k (List.mem_of_getElem? (i := 25) rfl)) rfl
theorem cvX2_102 : gk_Cv RX2 102 mX3_grow 3 2 := ⟨okX3_grow, ⟨_, _, rfl⟩, kw_828, kw_602, kw_603, kw_87⟩
theorem kw_829 : Cond.methodLink "AtomTables$Game" 106 yX4_isBarred ∈ gk_T := gk_in (t4k (List.mem_of_getElem? (i := 26) rfl)) rfl
theorem cvX2_106 : gk_Cv RX2 106 mX4_isBarred 4 1 := ⟨okX4_isBarred, ⟨_, _, rfl⟩, kw_829, kw_742, kw_743, kw_89⟩
theorem kw_843 : Cond.methodLink "AtomTables$Game" 112 yX3_placeOf ∈ gk_T := gk_in (t4k (List.mem_of_getElem? (i := 40) rfl)) rfl
theorem kw_667 : Cond.static yX3_placeOf ∈ gk_T := gk_in (t3k (List.mem_of_getElem? (i := 104) rfl)) rfl
theorem csX2_112 : gk_Cs RX2 112 mX3_placeOf 2 := ⟨okX3_placeOf, kw_843, kw_667, kw_87⟩
theorem kw_844 : Cond.methodLink "AtomTables$Game" 116 yX3_gapNumber ∈ gk_T := gk_in (t4k (List.mem_of_getElem? (i := 41) rfl)) rfl
theorem csX2_116 : gk_Cs RX2 116 mX3_gapNumber 3 := ⟨okX3_gapNumber, kw_844, kw_670, kw_87⟩
theorem kw_164 : Cond.methodLink "AtomTables$Net" 3 objectInit ∈ gk_T := gk_in (t1k (List.mem_of_getElem? (i := 81) rfl)) rfl
theorem kw_605 : Cond.methodLink "AtomTables$Net" 24 yX3_link ∈ gk_T := gk_in (t3k (List.mem_of_getElem? (i := 42) rfl)) rfl
theorem cvX3_24 : gk_Cv RX3 24 mX3_link 3 4 := ⟨okX3_link, ⟨_, _, rfl⟩, kw_605, kw_606, kw_607, kw_87⟩
theorem kw_646 : Cond.methodLink "AtomTables$Net" 28 yX3_at ∈ gk_T := gk_in (t3k (List.mem_of_getElem? (i := 83) rfl)) rfl
theorem cvX3_28 : gk_Cv RX3 28 mX3_at 3 2 := ⟨okX3_at, ⟨_, _, rfl⟩, kw_646, kw_622, kw_623, kw_87⟩
theorem kw_647 : Cond.methodLink "AtomTables$Net" 32 yX8_has ∈ gk_T := gk_in (t3k (List.mem_of_getElem? (i := 84) rfl)) rfl
theorem cvX3_32 : gk_Cv RX3 32 mX8_has 8 3 := ⟨okX8_has, ⟨_, _, rfl⟩, kw_647, kw_504, kw_505, kw_86⟩
theorem kw_656 : Cond.methodLink "AtomTables$Net" 37 yX3_open ∈ gk_T := gk_in (t3k (List.mem_of_getElem? (i := 93) rfl)) rfl
theorem cvX3_37 : gk_Cv RX3 37 mX3_open 3 3 := ⟨okX3_open, ⟨_, _, rfl⟩, kw_656, kw_657, kw_658, kw_87⟩
theorem kw_660 : Cond.methodLink "AtomTables$Net" 41 yJ6_bitCount_0f7a4 ∈ gk_T := gk_in (t3k (List.mem_of_getElem? (i := 97) rfl)) rfl
theorem kw_661 : Cond.static yJ6_bitCount_0f7a4 ∈ gk_T := gk_in (t3k (List.mem_of_getElem? (i := 98) rfl)) rfl
theorem kw_99 : Cond.initialized "java/lang/Integer" ∈ gk_T := gk_in (t1k (List.mem_of_getElem? (i := 16) rfl)) rfl
theorem csX3_41 : gk_Cs RX3 41 mJ6_bitCount_0f7a4 1 := ⟨okJ6_bitCount_0f7a4, kw_660, kw_661, kw_99⟩
theorem kw_666 : Cond.methodLink "AtomTables$Net" 47 yX3_placeOf ∈ gk_T := gk_in (t3k (List.mem_of_getElem? (i := 103) rfl)) rfl
theorem csX3_47 : gk_Cs RX3 47 mX3_placeOf 2 := ⟨okX3_placeOf, kw_666, kw_667, kw_87⟩
theorem kw_669 : Cond.methodLink "AtomTables$Net" 50 yX3_gapNumber ∈ gk_T := gk_in (t3k (List.mem_of_getElem? (i := 106) rfl)) rfl
theorem csX3_50 : gk_Cs RX3 50 mX3_gapNumber 3 := ⟨okX3_gapNumber, kw_669, kw_670, kw_87⟩
theorem kw_206 : Cond.methodLink "AtomTables$Patterns" 3 yX10_init ∈ gk_T := gk_in (t1k (List.mem_of_getElem? (i := 123) rfl)) rfl
theorem kw_207 : Cond.instanceMethod yX10_init ∈ gk_T := gk_in (t1k (List.mem_of_getElem? (i := 124) rfl)) rfl
theorem ciX4_3 : gk_Ci RX4 3 mX10_init 0 := ⟨okX10_init, kw_206, kw_207, kw_88, rfl, rfl⟩
theorem kw_745 : Cond.methodLink "AtomTables$Patterns" 27 yX4_look ∈ gk_T := gk_in (t3k (List.mem_of_getElem? (i := 182) rfl)) rfl
theorem kw_747 : Cond.instanceMethod yX4_look ∈ gk_T := gk_in (t3k (List.mem_of_getElem? (i := 184) rfl)) rfl
theorem kw_11 : Cond.selects "AtomTables$Patterns" yX4_look yX4_look ∈ gk_T := gk_in (p1k (List.mem_of_getElem? (i := 11) rfl)) rfl
theorem cvX4_27 : gk_Cv RX4 27 mX4_look 4 2 := ⟨okX4_look, ⟨_, _, rfl⟩, kw_745, kw_747, kw_11, kw_89⟩
theorem kw_752 : Cond.methodLink "AtomTables$Patterns" 31 ⟨"AtomTables$Patterns", "first", "()Z"⟩ ∈ gk_T := gk_in (t3k (List.mem_of_getElem? (i := 189) rfl)) rfl
theorem kw_753 : Cond.sameMethod "AtomTables$Patterns" "AtomTables$Wheels" "first" "()Z" ∈ gk_T := gk_in (t3k (List.mem_of_getElem? (i := 190) rfl)) rfl
theorem kw_754 : Cond.selects "AtomTables$Patterns" ⟨"AtomTables$Patterns", "first", "()Z"⟩ yX10_first ∈ gk_T := gk_in (t3k (List.mem_of_getElem? (i := 191) rfl)) rfl
theorem cuX4_31_4 : gk_Cu RX4 31 ⟨"AtomTables$Patterns", "first", "()Z"⟩ RX10 mX10_first 4 0 := ⟨okX10_first, RX4, TX4, 7, rfl, Or.inl rfl, ⟨by decide +kernel, by decide +kernel, by decide +kernel⟩, kw_752, kw_753, kw_754, kw_705, kw_88⟩
theorem kw_776 : Cond.methodLink "AtomTables$Patterns" 36 ⟨"AtomTables$Patterns", "digits", "(I)I"⟩ ∈ gk_T := gk_in (t3k (List.mem_of_getElem? (i := 213) rfl)) rfl
theorem kw_777 : Cond.sameMethod "AtomTables$Patterns" "AtomTables$Wheels" "digits" "(I)I" ∈ gk_T := gk_in (t3k (List.mem_of_getElem? (i := 214) rfl)) rfl
theorem kw_778 : Cond.selects "AtomTables$Patterns" ⟨"AtomTables$Patterns", "digits", "(I)I"⟩ yX10_digits ∈ gk_T := gk_in (t3k (List.mem_of_getElem? (i := 215) rfl)) rfl
theorem cuX4_36_4 : gk_Cu RX4 36 ⟨"AtomTables$Patterns", "digits", "(I)I"⟩ RX10 mX10_digits 4 1 := ⟨okX10_digits, RX4, TX4, 7, rfl, Or.inl rfl, ⟨by decide +kernel, by decide +kernel, by decide +kernel⟩, kw_776, kw_777, kw_778, kw_759, kw_88⟩
theorem kw_779 : Cond.methodLink "AtomTables$Patterns" 40 ⟨"AtomTables$Patterns", "next", "()Z"⟩ ∈ gk_T := gk_in (t3k (List.mem_of_getElem? (i := 216) rfl)) rfl
theorem kw_780 : Cond.sameMethod "AtomTables$Patterns" "AtomTables$Wheels" "next" "()Z" ∈ gk_T := gk_in (t3k (List.mem_of_getElem? (i := 217) rfl)) rfl
theorem kw_781 : Cond.selects "AtomTables$Patterns" ⟨"AtomTables$Patterns", "next", "()Z"⟩ yX10_next ∈ gk_T := gk_in (t3k (List.mem_of_getElem? (i := 218) rfl)) rfl
theorem cuX4_40_4 : gk_Cu RX4 40 ⟨"AtomTables$Patterns", "next", "()Z"⟩ RX10 mX10_next 4 0 := ⟨okX10_next, RX4, TX4, 7, rfl, Or.inl rfl, ⟨by decide +kernel, by decide +kernel, by decide +kernel⟩, kw_779, kw_780, kw_781, kw_765, kw_88⟩
theorem kw_749 : Cond.methodLink "AtomTables$Patterns" 53 ⟨"AtomTables$Patterns", "span", "(III)V"⟩ ∈ gk_T := gk_in (t3k (List.mem_of_getElem? (i := 186) rfl)) rfl
theorem kw_750 : Cond.sameMethod "AtomTables$Patterns" "AtomTables$Wheels" "span" "(III)V" ∈ gk_T := gk_in (t3k (List.mem_of_getElem? (i := 187) rfl)) rfl
theorem kw_751 : Cond.selects "AtomTables$Patterns" ⟨"AtomTables$Patterns", "span", "(III)V"⟩ yX10_span ∈ gk_T := gk_in (t3k (List.mem_of_getElem? (i := 188) rfl)) rfl
theorem kw_693 : Cond.instanceMethod yX10_span ∈ gk_T := gk_in (t3k (List.mem_of_getElem? (i := 130) rfl)) rfl
theorem cuX4_53_4 : gk_Cu RX4 53 ⟨"AtomTables$Patterns", "span", "(III)V"⟩ RX10 mX10_span 4 3 := ⟨okX10_span, RX4, TX4, 7, rfl, Or.inl rfl, ⟨by decide +kernel, by decide +kernel, by decide +kernel⟩, kw_749, kw_750, kw_751, kw_693, kw_88⟩
theorem kw_354 : Cond.methodLink "AtomTables$Pictures" 3 yX10_init ∈ gk_T := gk_in (t2k (List.mem_of_getElem? (i := 31) rfl)) rfl
theorem ciX5_3 : gk_Ci RX5 3 mX10_init 0 := ⟨okX10_init, kw_354, kw_207, kw_88, rfl, rfl⟩
theorem kw_916 : Cond.methodLink "AtomTables$Pictures" 34 yX5_isFull ∈ gk_T := gk_in (t4k (List.mem_of_getElem? (i := 113) rfl)) rfl
theorem kw_918 : Cond.instanceMethod yX5_isFull ∈ gk_T := gk_in (t4k (List.mem_of_getElem? (i := 115) rfl)) rfl
theorem kw_22 : Cond.selects "AtomTables$Pictures" yX5_isFull yX5_isFull ∈ gk_T := gk_in (p2k (List.mem_of_getElem? (i := 6) rfl)) rfl
theorem cvX5_34 : gk_Cv RX5 34 mX5_isFull 5 0 := ⟨okX5_isFull, ⟨_, _, rfl⟩, kw_916, kw_918, kw_22, kw_94⟩
theorem kw_921 : Cond.methodLink "AtomTables$Pictures" 38 yX5_readDue ∈ gk_T := gk_in (t4k (List.mem_of_getElem? (i := 118) rfl)) rfl
theorem kw_923 : Cond.instanceMethod yX5_readDue ∈ gk_T := gk_in (t4k (List.mem_of_getElem? (i := 120) rfl)) rfl
theorem kw_23 : Cond.selects "AtomTables$Pictures" yX5_readDue yX5_readDue ∈ gk_T := gk_in (p2k (List.mem_of_getElem? (i := 7) rfl)) rfl
theorem cvX5_38 : gk_Cv RX5 38 mX5_readDue 5 0 := ⟨okX5_readDue, ⟨_, _, rfl⟩, kw_921, kw_923, kw_23, kw_94⟩
theorem kw_929 : Cond.methodLink "AtomTables$Pictures" 41 yX5_misfit ∈ gk_T := gk_in (t4k (List.mem_of_getElem? (i := 126) rfl)) rfl
theorem kw_931 : Cond.instanceMethod yX5_misfit ∈ gk_T := gk_in (t4k (List.mem_of_getElem? (i := 128) rfl)) rfl
theorem kw_24 : Cond.selects "AtomTables$Pictures" yX5_misfit yX5_misfit ∈ gk_T := gk_in (p2k (List.mem_of_getElem? (i := 8) rfl)) rfl
theorem cvX5_41 : gk_Cv RX5 41 mX5_misfit 5 0 := ⟨okX5_misfit, ⟨_, _, rfl⟩, kw_929, kw_931, kw_24, kw_94⟩
theorem kw_920 : Cond.methodLink "AtomTables$Pictures" 45 yX8_relations ∈ gk_T := gk_in (t4k (List.mem_of_getElem? (i := 117) rfl)) rfl
theorem cvX5_45 : gk_Cv RX5 45 mX8_relations 8 0 := ⟨okX8_relations, ⟨_, _, rfl⟩, kw_920, kw_469, kw_470, kw_86⟩
theorem kw_925 : Cond.methodLink "AtomTables$Pictures" 48 yX8_pairsInto ∈ gk_T := gk_in (t4k (List.mem_of_getElem? (i := 122) rfl)) rfl
theorem kw_926 : Cond.instanceMethod yX8_pairsInto ∈ gk_T := gk_in (t4k (List.mem_of_getElem? (i := 123) rfl)) rfl
theorem kw_927 : Cond.selects "AtomTables$Table" yX8_pairsInto yX8_pairsInto ∈ gk_T := gk_in (t4k (List.mem_of_getElem? (i := 124) rfl)) rfl
theorem cvX5_48 : gk_Cv RX5 48 mX8_pairsInto 8 1 := ⟨okX8_pairsInto, ⟨_, _, rfl⟩, kw_925, kw_926, kw_927, kw_86⟩
theorem kw_941 : Cond.methodLink "AtomTables$Pictures" 52 yX8_unbalanced ∈ gk_T := gk_in (t4k (List.mem_of_getElem? (i := 138) rfl)) rfl
theorem cvX5_52 : gk_Cv RX5 52 mX8_unbalanced 8 1 := ⟨okX8_unbalanced, ⟨_, _, rfl⟩, kw_941, kw_562, kw_563, kw_86⟩
theorem kw_942 : Cond.methodLink "AtomTables$Pictures" 56 ⟨"AtomTables$Pictures", "span", "(III)V"⟩ ∈ gk_T := gk_in (t4k (List.mem_of_getElem? (i := 139) rfl)) rfl
theorem kw_943 : Cond.sameMethod "AtomTables$Pictures" "AtomTables$Wheels" "span" "(III)V" ∈ gk_T := gk_in (t4k (List.mem_of_getElem? (i := 140) rfl)) rfl
theorem kw_944 : Cond.selects "AtomTables$Pictures" ⟨"AtomTables$Pictures", "span", "(III)V"⟩ yX10_span ∈ gk_T := gk_in (t4k (List.mem_of_getElem? (i := 141) rfl)) rfl
theorem cuX5_56_5 : gk_Cu RX5 56 ⟨"AtomTables$Pictures", "span", "(III)V"⟩ RX10 mX10_span 5 3 := ⟨okX10_span, RX5, TX5, 8, rfl, Or.inl rfl, ⟨by decide +kernel, by decide +kernel, by decide +kernel⟩, kw_942, kw_943, kw_944, kw_693, kw_88⟩
theorem kw_945 : Cond.methodLink "AtomTables$Pictures" 60 ⟨"AtomTables$Pictures", "first", "()Z"⟩ ∈ gk_T := gk_in (t4k (List.mem_of_getElem? (i := 142) rfl)) rfl
theorem kw_946 : Cond.sameMethod "AtomTables$Pictures" "AtomTables$Wheels" "first" "()Z" ∈ gk_T := gk_in (t4k (List.mem_of_getElem? (i := 143) rfl)) rfl
theorem kw_947 : Cond.selects "AtomTables$Pictures" ⟨"AtomTables$Pictures", "first", "()Z"⟩ yX10_first ∈ gk_T := gk_in (t4k (List.mem_of_getElem? (i := 144) rfl)) rfl
theorem cuX5_60_5 : gk_Cu RX5 60 ⟨"AtomTables$Pictures", "first", "()Z"⟩ RX10 mX10_first 5 0 := ⟨okX10_first, RX5, TX5, 8, rfl, Or.inl rfl, ⟨by decide +kernel, by decide +kernel, by decide +kernel⟩, kw_945, kw_946, kw_947, kw_705, kw_88⟩
theorem kw_949 : Cond.methodLink "AtomTables$Pictures" 64 ⟨"AtomTables$Pictures", "next", "()Z"⟩ ∈ gk_T := gk_in (t4k (List.mem_of_getElem? (i := 146) rfl)) rfl
theorem kw_950 : Cond.sameMethod "AtomTables$Pictures" "AtomTables$Wheels" "next" "()Z" ∈ gk_T := gk_in (t4k (List.mem_of_getElem? (i := 147) rfl)) rfl
theorem kw_951 : Cond.selects "AtomTables$Pictures" ⟨"AtomTables$Pictures", "next", "()Z"⟩ yX10_next ∈ gk_T := gk_in (t4k (List.mem_of_getElem? (i := 148) rfl)) rfl
theorem cuX5_64_5 : gk_Cu RX5 64 ⟨"AtomTables$Pictures", "next", "()Z"⟩ RX10 mX10_next 5 0 := ⟨okX10_next, RX5, TX5, 8, rfl, Or.inl rfl, ⟨by decide +kernel, by decide +kernel, by decide +kernel⟩, kw_949, kw_950, kw_951, kw_765, kw_88⟩
theorem kw_721 : Cond.methodLink "AtomTables$Pictures" 71 yX5_goes ∈ gk_T := gk_in (t3k (List.mem_of_getElem? (i := 158) rfl)) rfl
theorem kw_723 : Cond.instanceMethod yX5_goes ∈ gk_T := gk_in (t3k (List.mem_of_getElem? (i := 160) rfl)) rfl
theorem kw_9 : Cond.selects "AtomTables$Pictures" yX5_goes yX5_goes ∈ gk_T := gk_in (p1k (List.mem_of_getElem? (i := 9) rfl)) rfl
theorem cvX5_71 : gk_Cv RX5 71 mX5_goes 5 1 := ⟨okX5_goes, ⟨_, _, rfl⟩, kw_721, kw_723, kw_9, kw_94⟩
theorem kw_725 : Cond.methodLink "AtomTables$Pictures" 75 yX8_has ∈ gk_T := gk_in (t3k (List.mem_of_getElem? (i := 162) rfl)) rfl
theorem cvX5_75 : gk_Cv RX5 75 mX8_has 8 3 := ⟨okX8_has, ⟨_, _, rfl⟩, kw_725, kw_504, kw_505, kw_86⟩
theorem kw_259 : Cond.methodLink "AtomTables$Rows" 1 yX10_init ∈ gk_T := gk_in (t1k (List.mem_of_getElem? (i := 176) rfl)) rfl
theorem ciX6_1 : gk_Ci RX6 1 mX10_init 0 := ⟨okX10_init, kw_259, kw_207, kw_88, rfl, rfl⟩
theorem kw_689 : Cond.methodLink "AtomTables$Rows" 26 ⟨"AtomTables$Rows", "span", "(III)V"⟩ ∈ gk_T := gk_in (t3k (List.mem_of_getElem? (i := 126) rfl)) rfl
theorem kw_690 : Cond.sameMethod "AtomTables$Rows" "AtomTables$Wheels" "span" "(III)V" ∈ gk_T := gk_in (t3k (List.mem_of_getElem? (i := 127) rfl)) rfl
theorem kw_692 : Cond.selects "AtomTables$Rows" ⟨"AtomTables$Rows", "span", "(III)V"⟩ yX10_span ∈ gk_T := gk_in (t3k (List.mem_of_getElem? (i := 129) rfl)) rfl
theorem cuX6_26_6 : gk_Cu RX6 26 ⟨"AtomTables$Rows", "span", "(III)V"⟩ RX10 mX10_span 6 3 := ⟨okX10_span, RX6, TX6, 6, rfl, Or.inl rfl, ⟨by decide +kernel, by decide +kernel, by decide +kernel⟩, kw_689, kw_690, kw_692, kw_693, kw_88⟩
theorem kw_729 : Cond.methodLink "AtomTables$Rows" 31 yX3_at ∈ gk_T := gk_in (t3k (List.mem_of_getElem? (i := 166) rfl)) rfl
theorem cvX6_31 : gk_Cv RX6 31 mX3_at 3 2 := ⟨okX3_at, ⟨_, _, rfl⟩, kw_729, kw_622, kw_623, kw_87⟩
theorem kw_730 : Cond.methodLink "AtomTables$Rows" 38 yX8_has ∈ gk_T := gk_in (t3k (List.mem_of_getElem? (i := 167) rfl)) rfl
theorem cvX6_38 : gk_Cv RX6 38 mX8_has 8 3 := ⟨okX8_has, ⟨_, _, rfl⟩, kw_730, kw_504, kw_505, kw_86⟩
theorem kw_117 : Cond.methodLink "AtomTables$Sheet" 3 objectInit ∈ gk_T := gk_in (t1k (List.mem_of_getElem? (i := 34) rfl)) rfl
theorem kw_120 : Cond.methodLink "AtomTables$Sheet" 11 yX8_init ∈ gk_T := gk_in (t1k (List.mem_of_getElem? (i := 37) rfl)) rfl
theorem kw_121 : Cond.instanceMethod yX8_init ∈ gk_T := gk_in (t1k (List.mem_of_getElem? (i := 38) rfl)) rfl
theorem ciX7_11 : gk_Ci RX7 11 mX8_init 0 := ⟨okX8_init, kw_120, kw_121, kw_86, rfl, rfl⟩
theorem kw_161 : Cond.methodLink "AtomTables$Sheet" 24 yX3_init ∈ gk_T := gk_in (t1k (List.mem_of_getElem? (i := 78) rfl)) rfl
theorem ciX7_24 : gk_Ci RX7 24 mX3_init 0 := ⟨okX3_init, kw_161, kw_162, kw_87, rfl, rfl⟩
theorem kw_1112 : Cond.methodLink "AtomTables$Sheet" 37 yX8_become ∈ gk_T := gk_in (t5k (List.mem_of_getElem? (i := 69) rfl)) rfl
theorem kw_1113 : Cond.instanceMethod yX8_become ∈ gk_T := gk_in (t5k (List.mem_of_getElem? (i := 70) rfl)) rfl
theorem kw_1114 : Cond.selects "AtomTables$Table" yX8_become yX8_become ∈ gk_T := gk_in (t5k (List.mem_of_getElem? (i := 71) rfl)) rfl
theorem cvX7_37 : gk_Cv RX7 37 mX8_become 8 1 := ⟨okX8_become, ⟨_, _, rfl⟩, kw_1112, kw_1113, kw_1114, kw_86⟩
theorem kw_1116 : Cond.methodLink "AtomTables$Sheet" 41 yX3_become ∈ gk_T := gk_in (t5k (List.mem_of_getElem? (i := 73) rfl)) rfl
theorem cvX7_41 : gk_Cv RX7 41 mX3_become 3 1 := ⟨okX3_become, ⟨_, _, rfl⟩, kw_1116, kw_635, kw_636, kw_87⟩
theorem kw_123 : Cond.methodLink "AtomTables$Table" 3 objectInit ∈ gk_T := gk_in (t1k (List.mem_of_getElem? (i := 40) rfl)) rfl
theorem kw_124 : Cond.methodLink "AtomTables$Table" 23 yX8_restart ∈ gk_T := gk_in (t1k (List.mem_of_getElem? (i := 41) rfl)) rfl
theorem cvX8_23 : gk_Cv RX8 23 mX8_restart 8 1 := ⟨okX8_restart, ⟨_, _, rfl⟩, kw_124, kw_125, kw_126, kw_86⟩
theorem kw_128 : Cond.methodLink "AtomTables$Table" 27 yX8_keepFixed ∈ gk_T := gk_in (t1k (List.mem_of_getElem? (i := 45) rfl)) rfl
theorem kw_130 : Cond.instanceMethod yX8_keepFixed ∈ gk_T := gk_in (t1k (List.mem_of_getElem? (i := 47) rfl)) rfl
theorem kw_0 : Cond.selects "AtomTables$Table" yX8_keepFixed yX8_keepFixed ∈ gk_T := gk_in (p1k (List.mem_of_getElem? (i := 0) rfl)) rfl
theorem cvX8_27 : gk_Cv RX8 27 mX8_keepFixed 8 0 := ⟨okX8_keepFixed, ⟨_, _, rfl⟩, kw_128, kw_130, kw_0, kw_86⟩
theorem kw_452 : Cond.methodLink "AtomTables$Table" 30 yX8_free ∈ gk_T := gk_in (t2k (List.mem_of_getElem? (i := 129) rfl)) rfl
theorem kw_454 : Cond.instanceMethod yX8_free ∈ gk_T := gk_in (t2k (List.mem_of_getElem? (i := 131) rfl)) rfl
theorem kw_3 : Cond.selects "AtomTables$Table" yX8_free yX8_free ∈ gk_T := gk_in (p1k (List.mem_of_getElem? (i := 3) rfl)) rfl
theorem cvX8_30 : gk_Cv RX8 30 mX8_free 8 1 := ⟨okX8_free, ⟨_, _, rfl⟩, kw_452, kw_454, kw_3, kw_86⟩
theorem kw_132 : Cond.methodLink "AtomTables$Table" 33 yX8_bit ∈ gk_T := gk_in (t1k (List.mem_of_getElem? (i := 49) rfl)) rfl
theorem kw_133 : Cond.static yX8_bit ∈ gk_T := gk_in (t1k (List.mem_of_getElem? (i := 50) rfl)) rfl
theorem csX8_33 : gk_Cs RX8 33 mX8_bit 3 := ⟨okX8_bit, kw_132, kw_133, kw_86⟩
theorem kw_488 : Cond.methodLink "AtomTables$Table" 37 yX8_turns ∈ gk_T := gk_in (t2k (List.mem_of_getElem? (i := 165) rfl)) rfl
theorem kw_489 : Cond.instanceMethod yX8_turns ∈ gk_T := gk_in (t2k (List.mem_of_getElem? (i := 166) rfl)) rfl
theorem kw_490 : Cond.selects "AtomTables$Table" yX8_turns yX8_turns ∈ gk_T := gk_in (t2k (List.mem_of_getElem? (i := 167) rfl)) rfl
theorem cvX8_37 : gk_Cv RX8 37 mX8_turns 8 3 := ⟨okX8_turns, ⟨_, _, rfl⟩, kw_488, kw_489, kw_490, kw_86⟩
theorem kw_493 : Cond.methodLink "AtomTables$Table" 42 yJ13_bitCount_95d88 ∈ gk_T := gk_in (t2k (List.mem_of_getElem? (i := 170) rfl)) rfl
theorem csX8_42 : gk_Cs RX8 42 mJ13_bitCount_95d88 1 := ⟨okJ13_bitCount_95d88, kw_493, kw_494, kw_97⟩
theorem kw_530 : Cond.methodLink "AtomTables$Table" 48 yX8_product ∈ gk_T := gk_in (t2k (List.mem_of_getElem? (i := 207) rfl)) rfl
theorem cvX8_48 : gk_Cv RX8 48 mX8_product 8 2 := ⟨okX8_product, ⟨_, _, rfl⟩, kw_530, kw_512, kw_513, kw_86⟩
theorem kw_526 : Cond.methodLink "AtomTables$Table" 52 yX8_sided ∈ gk_T := gk_in (t2k (List.mem_of_getElem? (i := 203) rfl)) rfl
theorem kw_528 : Cond.instanceMethod yX8_sided ∈ gk_T := gk_in (t2k (List.mem_of_getElem? (i := 205) rfl)) rfl
theorem kw_6 : Cond.selects "AtomTables$Table" yX8_sided yX8_sided ∈ gk_T := gk_in (p1k (List.mem_of_getElem? (i := 6) rfl)) rfl
theorem cvX8_52 : gk_Cv RX8 52 mX8_sided 8 3 := ⟨okX8_sided, ⟨_, _, rfl⟩, kw_526, kw_528, kw_6, kw_86⟩
theorem kw_539 : Cond.methodLink "AtomTables$Table" 56 yX8_relations ∈ gk_T := gk_in (t2k (List.mem_of_getElem? (i := 216) rfl)) rfl
theorem cvX8_56 : gk_Cv RX8 56 mX8_relations 8 0 := ⟨okX8_relations, ⟨_, _, rfl⟩, kw_539, kw_469, kw_470, kw_86⟩
theorem kw_548 : Cond.methodLink "AtomTables$Table" 60 yX8_mirrored ∈ gk_T := gk_in (t2k (List.mem_of_getElem? (i := 225) rfl)) rfl
theorem cvX8_60 : gk_Cv RX8 60 mX8_mirrored 8 1 := ⟨okX8_mirrored, ⟨_, _, rfl⟩, kw_548, kw_473, kw_474, kw_86⟩
theorem kw_565 : Cond.methodLink "AtomTables$Table" 64 yX8_isUnbalanced ∈ gk_T := gk_in (t3k (List.mem_of_getElem? (i := 2) rfl)) rfl
theorem kw_567 : Cond.instanceMethod yX8_isUnbalanced ∈ gk_T := gk_in (t3k (List.mem_of_getElem? (i := 4) rfl)) rfl
theorem kw_7 : Cond.selects "AtomTables$Table" yX8_isUnbalanced yX8_isUnbalanced ∈ gk_T := gk_in (p1k (List.mem_of_getElem? (i := 7) rfl)) rfl
theorem cvX8_64 : gk_Cv RX8 64 mX8_isUnbalanced 8 3 := ⟨okX8_isUnbalanced, ⟨_, _, rfl⟩, kw_565, kw_567, kw_7, kw_86⟩
theorem kw_582 : Cond.methodLink "AtomTables$Table" 68 yX8_isLeastTurn ∈ gk_T := gk_in (t3k (List.mem_of_getElem? (i := 19) rfl)) rfl
theorem kw_583 : Cond.instanceMethod yX8_isLeastTurn ∈ gk_T := gk_in (t3k (List.mem_of_getElem? (i := 20) rfl)) rfl
theorem kw_584 : Cond.selects "AtomTables$Table" yX8_isLeastTurn yX8_isLeastTurn ∈ gk_T := gk_in (t3k (List.mem_of_getElem? (i := 21) rfl)) rfl
theorem cvX8_68 : gk_Cv RX8 68 mX8_isLeastTurn 8 3 := ⟨okX8_isLeastTurn, ⟨_, _, rfl⟩, kw_582, kw_583, kw_584, kw_86⟩
theorem kw_586 : Cond.methodLink "AtomTables$Table" 71 yX8_has ∈ gk_T := gk_in (t3k (List.mem_of_getElem? (i := 23) rfl)) rfl
theorem cvX8_71 : gk_Cv RX8 71 mX8_has 8 3 := ⟨okX8_has, ⟨_, _, rfl⟩, kw_586, kw_504, kw_505, kw_86⟩
theorem kw_587 : Cond.methodLink "AtomTables$Table" 74 yJ9_max_7cf53 ∈ gk_T := gk_in (t3k (List.mem_of_getElem? (i := 24) rfl)) rfl
theorem kw_378 : Cond.methodLink "AtomTables$Tape" 3 objectInit ∈ gk_T := gk_in (t2k (List.mem_of_getElem? (i := 55) rfl)) rfl
theorem kw_985 : Cond.methodLink "AtomTables$Tape" 19 yX9_wordEnd ∈ gk_T := gk_in (t4k (List.mem_of_getElem? (i := 182) rfl)) rfl
theorem cvX9_19 : gk_Cv RX9 19 mX9_wordEnd 9 1 := ⟨okX9_wordEnd, ⟨_, _, rfl⟩, kw_985, kw_986, kw_987, kw_95⟩
theorem kw_989 : Cond.methodLink "AtomTables$Tape" 23 yX9_wordKind ∈ gk_T := gk_in (t4k (List.mem_of_getElem? (i := 186) rfl)) rfl
theorem cvX9_23 : gk_Cv RX9 23 mX9_wordKind 9 2 := ⟨okX9_wordKind, ⟨_, _, rfl⟩, kw_989, kw_990, kw_991, kw_95⟩
theorem kw_1049 : Cond.methodLink "AtomTables$Tape" 27 yX9_figuresOf ∈ gk_T := gk_in (t5k (List.mem_of_getElem? (i := 6) rfl)) rfl
theorem cvX9_27 : gk_Cv RX9 27 mX9_figuresOf 9 1 := ⟨okX9_figuresOf, ⟨_, _, rfl⟩, kw_1049, kw_1050, kw_1051, kw_95⟩
theorem kw_1053 : Cond.methodLink "AtomTables$Tape" 30 yX9_goodFigures ∈ gk_T := gk_in (t5k (List.mem_of_getElem? (i := 10) rfl)) rfl
theorem kw_1055 : Cond.instanceMethod yX9_goodFigures ∈ gk_T := gk_in (t5k (List.mem_of_getElem? (i := 12) rfl)) rfl
theorem kw_26 : Cond.selects "AtomTables$Tape" yX9_goodFigures yX9_goodFigures ∈ gk_T := gk_in (p2k (List.mem_of_getElem? (i := 10) rfl)) rfl
theorem cvX9_30 : gk_Cv RX9 30 mX9_goodFigures 9 2 := ⟨okX9_goodFigures, ⟨_, _, rfl⟩, kw_1053, kw_1055, kw_26, kw_95⟩
theorem kw_1057 : Cond.methodLink "AtomTables$Tape" 33 yX9_isDue ∈ gk_T := gk_in (t5k (List.mem_of_getElem? (i := 14) rfl)) rfl
theorem kw_1059 : Cond.instanceMethod yX9_isDue ∈ gk_T := gk_in (t5k (List.mem_of_getElem? (i := 16) rfl)) rfl
theorem kw_27 : Cond.selects "AtomTables$Tape" yX9_isDue yX9_isDue ∈ gk_T := gk_in (p2k (List.mem_of_getElem? (i := 11) rfl)) rfl
theorem cvX9_33 : gk_Cv RX9 33 mX9_isDue 9 2 := ⟨okX9_isDue, ⟨_, _, rfl⟩, kw_1057, kw_1059, kw_27, kw_95⟩
theorem kw_994 : Cond.methodLink "AtomTables$Tape" 39 yX9_isWord ∈ gk_T := gk_in (t4k (List.mem_of_getElem? (i := 191) rfl)) rfl
theorem kw_996 : Cond.instanceMethod yX9_isWord ∈ gk_T := gk_in (t4k (List.mem_of_getElem? (i := 193) rfl)) rfl
theorem kw_25 : Cond.selects "AtomTables$Tape" yX9_isWord yX9_isWord ∈ gk_T := gk_in (p2k (List.mem_of_getElem? (i := 9) rfl)) rfl
theorem cvX9_39 : gk_Cv RX9 39 mX9_isWord 9 3 := ⟨okX9_isWord, ⟨_, _, rfl⟩, kw_994, kw_996, kw_25, kw_95⟩
theorem kw_998 : Cond.methodLink "AtomTables$Tape" 49 yJ0_length_8abf5 ∈ gk_T := gk_in (t4k (List.mem_of_getElem? (i := 195) rfl)) rfl
theorem kw_1008 : Cond.methodLink "AtomTables$Tape" 55 yJ0_charAt_5068e ∈ gk_T := gk_in (t4k (List.mem_of_getElem? (i := 205) rfl)) rfl
theorem kw_1087 : Cond.methodLink "AtomTables$Tape" 59 yX9_writeWord ∈ gk_T := gk_in (t5k (List.mem_of_getElem? (i := 44) rfl)) rfl
theorem kw_1089 : Cond.instanceMethod yX9_writeWord ∈ gk_T := gk_in (t5k (List.mem_of_getElem? (i := 46) rfl)) rfl
theorem kw_30 : Cond.selects "AtomTables$Tape" yX9_writeWord yX9_writeWord ∈ gk_T := gk_in (p2k (List.mem_of_getElem? (i := 14) rfl)) rfl
theorem cvX9_59 : gk_Cv RX9 59 mX9_writeWord 9 1 := ⟨okX9_writeWord, ⟨_, _, rfl⟩, kw_1087, kw_1089, kw_30, kw_95⟩
theorem kw_1092 : Cond.methodLink "AtomTables$Tape" 66 yX9_writeFigure ∈ gk_T := gk_in (t5k (List.mem_of_getElem? (i := 49) rfl)) rfl
theorem kw_1094 : Cond.instanceMethod yX9_writeFigure ∈ gk_T := gk_in (t5k (List.mem_of_getElem? (i := 51) rfl)) rfl
theorem kw_31 : Cond.selects "AtomTables$Tape" yX9_writeFigure yX9_writeFigure ∈ gk_T := gk_in (p2k (List.mem_of_getElem? (i := 15) rfl)) rfl
theorem cvX9_66 : gk_Cv RX9 66 mX9_writeFigure 9 1 := ⟨okX9_writeFigure, ⟨_, _, rfl⟩, kw_1092, kw_1094, kw_31, kw_95⟩
theorem kw_1097 : Cond.methodLink "AtomTables$Tape" 76 yX8_has ∈ gk_T := gk_in (t5k (List.mem_of_getElem? (i := 54) rfl)) rfl
theorem cvX9_76 : gk_Cv RX9 76 mX8_has 8 3 := ⟨okX8_has, ⟨_, _, rfl⟩, kw_1097, kw_504, kw_505, kw_86⟩
theorem kw_1098 : Cond.methodLink "AtomTables$Tape" 80 yX8_isLeastTurn ∈ gk_T := gk_in (t5k (List.mem_of_getElem? (i := 55) rfl)) rfl
theorem cvX9_80 : gk_Cv RX9 80 mX8_isLeastTurn 8 3 := ⟨okX8_isLeastTurn, ⟨_, _, rfl⟩, kw_1098, kw_583, kw_584, kw_86⟩
theorem kw_1099 : Cond.methodLink "AtomTables$Tape" 83 yX9_writeThree ∈ gk_T := gk_in (t5k (List.mem_of_getElem? (i := 56) rfl)) rfl
theorem kw_1101 : Cond.instanceMethod yX9_writeThree ∈ gk_T := gk_in (t5k (List.mem_of_getElem? (i := 58) rfl)) rfl
theorem kw_32 : Cond.selects "AtomTables$Tape" yX9_writeThree yX9_writeThree ∈ gk_T := gk_in (p3k (List.mem_of_getElem? (i := 0) rfl)) rfl
theorem cvX9_83 : gk_Cv RX9 83 mX9_writeThree 9 3 := ⟨okX9_writeThree, ⟨_, _, rfl⟩, kw_1099, kw_1101, kw_32, kw_95⟩
theorem kw_1091 : Cond.methodLink "AtomTables$Tape" 89 yX9_append ∈ gk_T := gk_in (t5k (List.mem_of_getElem? (i := 48) rfl)) rfl
theorem cvX9_89 : gk_Cv RX9 89 mX9_append 9 1 := ⟨okX9_append, ⟨_, _, rfl⟩, kw_1091, kw_970, kw_971, kw_95⟩
theorem kw_209 : Cond.methodLink "AtomTables$Wheels" 3 objectInit ∈ gk_T := gk_in (t1k (List.mem_of_getElem? (i := 126) rfl)) rfl
theorem kw_707 : Cond.methodLink "AtomTables$Wheels" 25 yX10_settle ∈ gk_T := gk_in (t3k (List.mem_of_getElem? (i := 144) rfl)) rfl
theorem kw_1634 : Cond.sameMethod "AtomTables$Wheels" "AtomTables$Wheels" "settle" "(I)Z" ∈ gk_T := gk_in (t7k (List.mem_of_getElem? (i := 111) rfl)) rfl
theorem kw_709 : Cond.instanceMethod yX10_settle ∈ gk_T := gk_in (t3k (List.mem_of_getElem? (i := 146) rfl)) rfl
theorem cuX10_25_4 : gk_Cu RX10 25 yX10_settle RX10 mX10_settle 4 1 := ⟨okX10_settle, RX4, TX4, 7, rfl, Or.inl rfl, ⟨by decide +kernel, by decide +kernel, by decide +kernel⟩, kw_707, kw_1634, (gk_inx 0 (by decide +kernel) (by decide +kernel)), kw_709, kw_88⟩
theorem cuX10_25_5 : gk_Cu RX10 25 yX10_settle RX10 mX10_settle 5 1 := ⟨okX10_settle, RX5, TX5, 8, rfl, Or.inl rfl, ⟨by decide +kernel, by decide +kernel, by decide +kernel⟩, kw_707, kw_1634, (gk_inx 1 (by decide +kernel) (by decide +kernel)), kw_709, kw_88⟩
theorem cuX10_25_6 : gk_Cu RX10 25 yX10_settle RX10 mX10_settle 6 1 := ⟨okX10_settle, RX6, TX6, 6, rfl, Or.inl rfl, ⟨by decide +kernel, by decide +kernel, by decide +kernel⟩, kw_707, kw_1634, (gk_inx 2 (by decide +kernel) (by decide +kernel)), kw_709, kw_88⟩
theorem kw_731 : Cond.methodLink "AtomTables$Wheels" 29 yX10_turn ∈ gk_T := gk_in (t3k (List.mem_of_getElem? (i := 168) rfl)) rfl
theorem kw_1635 : Cond.sameMethod "AtomTables$Wheels" "AtomTables$Wheels" "turn" "(I)I" ∈ gk_T := gk_in (t7k (List.mem_of_getElem? (i := 112) rfl)) rfl
theorem kw_733 : Cond.instanceMethod yX10_turn ∈ gk_T := gk_in (t3k (List.mem_of_getElem? (i := 170) rfl)) rfl
theorem cuX10_29_4 : gk_Cu RX10 29 yX10_turn RX10 mX10_turn 4 1 := ⟨okX10_turn, RX4, TX4, 7, rfl, Or.inl rfl, ⟨by decide +kernel, by decide +kernel, by decide +kernel⟩, kw_731, kw_1635, (gk_inx 3 (by decide +kernel) (by decide +kernel)), kw_733, kw_88⟩
theorem cuX10_29_5 : gk_Cu RX10 29 yX10_turn RX10 mX10_turn 5 1 := ⟨okX10_turn, RX5, TX5, 8, rfl, Or.inl rfl, ⟨by decide +kernel, by decide +kernel, by decide +kernel⟩, kw_731, kw_1635, (gk_inx 4 (by decide +kernel) (by decide +kernel)), kw_733, kw_88⟩
theorem cuX10_29_6 : gk_Cu RX10 29 yX10_turn RX10 mX10_turn 6 1 := ⟨okX10_turn, RX6, TX6, 6, rfl, Or.inl rfl, ⟨by decide +kernel, by decide +kernel, by decide +kernel⟩, kw_731, kw_1635, (gk_inx 5 (by decide +kernel) (by decide +kernel)), kw_733, kw_88⟩
theorem kw_712 : Cond.methodLink "AtomTables$Wheels" 34 ⟨"AtomTables$Wheels", "clash", "(I)I"⟩ ∈ gk_T := gk_in (t3k (List.mem_of_getElem? (i := 149) rfl)) rfl
theorem kw_714 : Cond.sameMethod "AtomTables$Wheels" "AtomTables$Wheels" "clash" "(I)I" ∈ gk_T := gk_in (t3k (List.mem_of_getElem? (i := 151) rfl)) rfl
theorem kw_715 : Cond.selects "AtomTables$Patterns" ⟨"AtomTables$Wheels", "clash", "(I)I"⟩ yX4_clash ∈ gk_T := gk_in (t3k (List.mem_of_getElem? (i := 152) rfl)) rfl
theorem kw_716 : Cond.instanceMethod yX4_clash ∈ gk_T := gk_in (t3k (List.mem_of_getElem? (i := 153) rfl)) rfl
theorem cuX10_34_4 : gk_Cu RX10 34 ⟨"AtomTables$Wheels", "clash", "(I)I"⟩ RX10 mX4_clash 4 1 := ⟨okX4_clash, RX4, TX4, 7, rfl, Or.inr rfl, ⟨by decide +kernel, by decide +kernel, by decide +kernel⟩, kw_712, kw_714, kw_715, kw_716, kw_89⟩
theorem kw_718 : Cond.selects "AtomTables$Pictures" ⟨"AtomTables$Wheels", "clash", "(I)I"⟩ yX5_clash ∈ gk_T := gk_in (t3k (List.mem_of_getElem? (i := 155) rfl)) rfl
theorem kw_719 : Cond.instanceMethod yX5_clash ∈ gk_T := gk_in (t3k (List.mem_of_getElem? (i := 156) rfl)) rfl
theorem cuX10_34_5 : gk_Cu RX10 34 ⟨"AtomTables$Wheels", "clash", "(I)I"⟩ RX10 mX5_clash 5 1 := ⟨okX5_clash, RX5, TX5, 8, rfl, Or.inr rfl, ⟨by decide +kernel, by decide +kernel, by decide +kernel⟩, kw_712, kw_714, kw_718, kw_719, kw_94⟩
theorem kw_726 : Cond.selects "AtomTables$Rows" ⟨"AtomTables$Wheels", "clash", "(I)I"⟩ yX6_clash ∈ gk_T := gk_in (t3k (List.mem_of_getElem? (i := 163) rfl)) rfl
theorem kw_727 : Cond.instanceMethod yX6_clash ∈ gk_T := gk_in (t3k (List.mem_of_getElem? (i := 164) rfl)) rfl
theorem cuX10_34_6 : gk_Cu RX10 34 ⟨"AtomTables$Wheels", "clash", "(I)I"⟩ RX10 mX6_clash 6 1 := ⟨okX6_clash, RX6, TX6, 6, rfl, Or.inr rfl, ⟨by decide +kernel, by decide +kernel, by decide +kernel⟩, kw_712, kw_714, kw_726, kw_727, kw_91⟩
theorem kw_106 : Cond.methodLink "AtomTablesLaw" 9 yX11_init ∈ gk_T := gk_in (t1k (List.mem_of_getElem? (i := 23) rfl)) rfl
theorem kw_107 : Cond.instanceMethod yX11_init ∈ gk_T := gk_in (t1k (List.mem_of_getElem? (i := 24) rfl)) rfl
theorem ciL_9 : gk_Ci "AtomTablesLaw" 9 mX11_init 0 := ⟨okX11_init, kw_106, kw_107, kw_84, rfl, rfl⟩
theorem kw_1131 : Cond.methodLink "AtomTablesLaw" 12 yX12_init ∈ gk_T := gk_in (t5k (List.mem_of_getElem? (i := 88) rfl)) rfl
theorem kw_1132 : Cond.instanceMethod yX12_init ∈ gk_T := gk_in (t5k (List.mem_of_getElem? (i := 89) rfl)) rfl
theorem kw_96 : Cond.initialized "AtomTablesModel" ∈ gk_T := gk_in (t1k (List.mem_of_getElem? (i := 13) rfl)) rfl
theorem ciL_12 : gk_Ci "AtomTablesLaw" 12 mX12_init 0 := ⟨okX12_init, kw_1131, kw_1132, kw_96, rfl, rfl⟩
theorem kw_427 : Cond.methodLink "AtomTablesLaw" 13 yX11_atoms ∈ gk_T := gk_in (t2k (List.mem_of_getElem? (i := 104) rfl)) rfl
theorem cvL_13 : gk_Cv "AtomTablesLaw" 13 mX11_atoms 10 1 := ⟨okX11_atoms, ⟨_, _, rfl⟩, kw_427, kw_428, kw_429, kw_84⟩
theorem kw_1244 : Cond.methodLink "AtomTablesLaw" 17 yX12_atoms ∈ gk_T := gk_in (t5k (List.mem_of_getElem? (i := 201) rfl)) rfl
theorem kw_1245 : Cond.instanceMethod yX12_atoms ∈ gk_T := gk_in (t5k (List.mem_of_getElem? (i := 202) rfl)) rfl
theorem kw_1246 : Cond.selects "AtomTablesModel" yX12_atoms yX12_atoms ∈ gk_T := gk_in (t5k (List.mem_of_getElem? (i := 203) rfl)) rfl
theorem cvL_17 : gk_Cv "AtomTablesLaw" 17 mX12_atoms 11 1 := ⟨okX12_atoms, ⟨_, _, rfl⟩, kw_1244, kw_1245, kw_1246, kw_96⟩
theorem kw_440 : Cond.methodLink "AtomTablesLaw" 18 yX11_pair ∈ gk_T := gk_in (t2k (List.mem_of_getElem? (i := 117) rfl)) rfl
theorem cvL_18 : gk_Cv "AtomTablesLaw" 18 mX11_pair 10 2 := ⟨okX11_pair, ⟨_, _, rfl⟩, kw_440, kw_441, kw_442, kw_84⟩
theorem kw_1252 : Cond.methodLink "AtomTablesLaw" 22 yX12_pair ∈ gk_T := gk_in (t5k (List.mem_of_getElem? (i := 209) rfl)) rfl
theorem kw_1253 : Cond.instanceMethod yX12_pair ∈ gk_T := gk_in (t5k (List.mem_of_getElem? (i := 210) rfl)) rfl
theorem kw_1254 : Cond.selects "AtomTablesModel" yX12_pair yX12_pair ∈ gk_T := gk_in (t5k (List.mem_of_getElem? (i := 211) rfl)) rfl
theorem cvL_22 : gk_Cv "AtomTablesLaw" 22 mX12_pair 11 2 := ⟨okX12_pair, ⟨_, _, rfl⟩, kw_1252, kw_1253, kw_1254, kw_96⟩
theorem kw_460 : Cond.methodLink "AtomTablesLaw" 23 yX11_converse ∈ gk_T := gk_in (t2k (List.mem_of_getElem? (i := 137) rfl)) rfl
theorem kw_461 : Cond.instanceMethod yX11_converse ∈ gk_T := gk_in (t2k (List.mem_of_getElem? (i := 138) rfl)) rfl
theorem kw_462 : Cond.selects "AtomTables" yX11_converse yX11_converse ∈ gk_T := gk_in (t2k (List.mem_of_getElem? (i := 139) rfl)) rfl
theorem cvL_23 : gk_Cv "AtomTablesLaw" 23 mX11_converse 10 1 := ⟨okX11_converse, ⟨_, _, rfl⟩, kw_460, kw_461, kw_462, kw_84⟩
theorem kw_1260 : Cond.methodLink "AtomTablesLaw" 26 yX12_converse ∈ gk_T := gk_in (t5k (List.mem_of_getElem? (i := 217) rfl)) rfl
theorem kw_1261 : Cond.instanceMethod yX12_converse ∈ gk_T := gk_in (t5k (List.mem_of_getElem? (i := 218) rfl)) rfl
theorem kw_1262 : Cond.selects "AtomTablesModel" yX12_converse yX12_converse ∈ gk_T := gk_in (t5k (List.mem_of_getElem? (i := 219) rfl)) rfl
theorem cvL_26 : gk_Cv "AtomTablesLaw" 26 mX12_converse 11 1 := ⟨okX12_converse, ⟨_, _, rfl⟩, kw_1260, kw_1261, kw_1262, kw_96⟩
theorem kw_476 : Cond.methodLink "AtomTablesLaw" 27 yX11_triangle ∈ gk_T := gk_in (t2k (List.mem_of_getElem? (i := 153) rfl)) rfl
theorem cvL_27 : gk_Cv "AtomTablesLaw" 27 mX11_triangle 10 4 := ⟨okX11_triangle, ⟨_, _, rfl⟩, kw_476, kw_477, kw_478, kw_84⟩
theorem kw_1275 : Cond.methodLink "AtomTablesLaw" 31 yX12_triangle ∈ gk_T := gk_in (t5k (List.mem_of_getElem? (i := 232) rfl)) rfl
theorem kw_1276 : Cond.instanceMethod yX12_triangle ∈ gk_T := gk_in (t5k (List.mem_of_getElem? (i := 233) rfl)) rfl
theorem kw_1277 : Cond.selects "AtomTablesModel" yX12_triangle yX12_triangle ∈ gk_T := gk_in (t5k (List.mem_of_getElem? (i := 234) rfl)) rfl
theorem cvL_31 : gk_Cv "AtomTablesLaw" 31 mX12_triangle 11 4 := ⟨okX12_triangle, ⟨_, _, rfl⟩, kw_1275, kw_1276, kw_1277, kw_96⟩
theorem kw_499 : Cond.methodLink "AtomTablesLaw" 32 yX11_isIn ∈ gk_T := gk_in (t2k (List.mem_of_getElem? (i := 176) rfl)) rfl
theorem kw_500 : Cond.instanceMethod yX11_isIn ∈ gk_T := gk_in (t2k (List.mem_of_getElem? (i := 177) rfl)) rfl
theorem kw_501 : Cond.selects "AtomTables" yX11_isIn yX11_isIn ∈ gk_T := gk_in (t2k (List.mem_of_getElem? (i := 178) rfl)) rfl
theorem cvL_32 : gk_Cv "AtomTablesLaw" 32 mX11_isIn 10 3 := ⟨okX11_isIn, ⟨_, _, rfl⟩, kw_499, kw_500, kw_501, kw_84⟩
theorem kw_1287 : Cond.methodLink "AtomTablesLaw" 36 yX12_isIn ∈ gk_T := gk_in (t6k (List.mem_of_getElem? (i := 4) rfl)) rfl
theorem kw_1288 : Cond.instanceMethod yX12_isIn ∈ gk_T := gk_in (t6k (List.mem_of_getElem? (i := 5) rfl)) rfl
theorem kw_1289 : Cond.selects "AtomTablesModel" yX12_isIn yX12_isIn ∈ gk_T := gk_in (t6k (List.mem_of_getElem? (i := 6) rfl)) rfl
theorem cvL_36 : gk_Cv "AtomTablesLaw" 36 mX12_isIn 11 3 := ⟨okX12_isIn, ⟨_, _, rfl⟩, kw_1287, kw_1288, kw_1289, kw_96⟩
theorem kw_507 : Cond.methodLink "AtomTablesLaw" 37 yX11_compose ∈ gk_T := gk_in (t2k (List.mem_of_getElem? (i := 184) rfl)) rfl
theorem kw_508 : Cond.instanceMethod yX11_compose ∈ gk_T := gk_in (t2k (List.mem_of_getElem? (i := 185) rfl)) rfl
theorem kw_509 : Cond.selects "AtomTables" yX11_compose yX11_compose ∈ gk_T := gk_in (t2k (List.mem_of_getElem? (i := 186) rfl)) rfl
theorem cvL_37 : gk_Cv "AtomTablesLaw" 37 mX11_compose 10 2 := ⟨okX11_compose, ⟨_, _, rfl⟩, kw_507, kw_508, kw_509, kw_84⟩
theorem kw_1295 : Cond.methodLink "AtomTablesLaw" 40 yX12_compose ∈ gk_T := gk_in (t6k (List.mem_of_getElem? (i := 12) rfl)) rfl
theorem kw_1296 : Cond.instanceMethod yX12_compose ∈ gk_T := gk_in (t6k (List.mem_of_getElem? (i := 13) rfl)) rfl
theorem kw_1297 : Cond.selects "AtomTablesModel" yX12_compose yX12_compose ∈ gk_T := gk_in (t6k (List.mem_of_getElem? (i := 14) rfl)) rfl
theorem cvL_40 : gk_Cv "AtomTablesLaw" 40 mX12_compose 11 2 := ⟨okX12_compose, ⟨_, _, rfl⟩, kw_1295, kw_1296, kw_1297, kw_96⟩
theorem kw_515 : Cond.methodLink "AtomTablesLaw" 41 yX11_over ∈ gk_T := gk_in (t2k (List.mem_of_getElem? (i := 192) rfl)) rfl
theorem kw_516 : Cond.instanceMethod yX11_over ∈ gk_T := gk_in (t2k (List.mem_of_getElem? (i := 193) rfl)) rfl
theorem kw_517 : Cond.selects "AtomTables" yX11_over yX11_over ∈ gk_T := gk_in (t2k (List.mem_of_getElem? (i := 194) rfl)) rfl
theorem cvL_41 : gk_Cv "AtomTablesLaw" 41 mX11_over 10 3 := ⟨okX11_over, ⟨_, _, rfl⟩, kw_515, kw_516, kw_517, kw_84⟩
theorem kw_1303 : Cond.methodLink "AtomTablesLaw" 44 yX12_over ∈ gk_T := gk_in (t6k (List.mem_of_getElem? (i := 20) rfl)) rfl
theorem kw_1304 : Cond.instanceMethod yX12_over ∈ gk_T := gk_in (t6k (List.mem_of_getElem? (i := 21) rfl)) rfl
theorem kw_1305 : Cond.selects "AtomTablesModel" yX12_over yX12_over ∈ gk_T := gk_in (t6k (List.mem_of_getElem? (i := 22) rfl)) rfl
theorem cvL_44 : gk_Cv "AtomTablesLaw" 44 mX12_over 11 3 := ⟨okX12_over, ⟨_, _, rfl⟩, kw_1303, kw_1304, kw_1305, kw_96⟩
theorem kw_531 : Cond.methodLink "AtomTablesLaw" 45 yX11_power ∈ gk_T := gk_in (t2k (List.mem_of_getElem? (i := 208) rfl)) rfl
theorem kw_532 : Cond.instanceMethod yX11_power ∈ gk_T := gk_in (t2k (List.mem_of_getElem? (i := 209) rfl)) rfl
theorem kw_533 : Cond.selects "AtomTables" yX11_power yX11_power ∈ gk_T := gk_in (t2k (List.mem_of_getElem? (i := 210) rfl)) rfl
theorem cvL_45 : gk_Cv "AtomTablesLaw" 45 mX11_power 10 2 := ⟨okX11_power, ⟨_, _, rfl⟩, kw_531, kw_532, kw_533, kw_84⟩
theorem kw_1311 : Cond.methodLink "AtomTablesLaw" 48 yX12_power ∈ gk_T := gk_in (t6k (List.mem_of_getElem? (i := 28) rfl)) rfl
theorem kw_1312 : Cond.instanceMethod yX12_power ∈ gk_T := gk_in (t6k (List.mem_of_getElem? (i := 29) rfl)) rfl
theorem kw_1313 : Cond.selects "AtomTablesModel" yX12_power yX12_power ∈ gk_T := gk_in (t6k (List.mem_of_getElem? (i := 30) rfl)) rfl
theorem cvL_48 : gk_Cv "AtomTablesLaw" 48 mX12_power 11 2 := ⟨okX12_power, ⟨_, _, rfl⟩, kw_1311, kw_1312, kw_1313, kw_96⟩
theorem kw_540 : Cond.methodLink "AtomTablesLaw" 49 yX11_equivalence ∈ gk_T := gk_in (t2k (List.mem_of_getElem? (i := 217) rfl)) rfl
theorem kw_541 : Cond.instanceMethod yX11_equivalence ∈ gk_T := gk_in (t2k (List.mem_of_getElem? (i := 218) rfl)) rfl
theorem kw_542 : Cond.selects "AtomTables" yX11_equivalence yX11_equivalence ∈ gk_T := gk_in (t2k (List.mem_of_getElem? (i := 219) rfl)) rfl
theorem cvL_49 : gk_Cv "AtomTablesLaw" 49 mX11_equivalence 10 1 := ⟨okX11_equivalence, ⟨_, _, rfl⟩, kw_540, kw_541, kw_542, kw_84⟩
theorem kw_1319 : Cond.methodLink "AtomTablesLaw" 52 yX12_equivalence ∈ gk_T := gk_in (t6k (List.mem_of_getElem? (i := 36) rfl)) rfl
theorem kw_1320 : Cond.instanceMethod yX12_equivalence ∈ gk_T := gk_in (t6k (List.mem_of_getElem? (i := 37) rfl)) rfl
theorem kw_1321 : Cond.selects "AtomTablesModel" yX12_equivalence yX12_equivalence ∈ gk_T := gk_in (t6k (List.mem_of_getElem? (i := 38) rfl)) rfl
theorem cvL_52 : gk_Cv "AtomTablesLaw" 52 mX12_equivalence 11 1 := ⟨okX12_equivalence, ⟨_, _, rfl⟩, kw_1319, kw_1320, kw_1321, kw_96⟩
theorem kw_549 : Cond.methodLink "AtomTablesLaw" 53 yX11_solved ∈ gk_T := gk_in (t2k (List.mem_of_getElem? (i := 226) rfl)) rfl
theorem kw_550 : Cond.instanceMethod yX11_solved ∈ gk_T := gk_in (t2k (List.mem_of_getElem? (i := 227) rfl)) rfl
theorem kw_551 : Cond.selects "AtomTables" yX11_solved yX11_solved ∈ gk_T := gk_in (t2k (List.mem_of_getElem? (i := 228) rfl)) rfl
theorem cvL_53 : gk_Cv "AtomTablesLaw" 53 mX11_solved 10 4 := ⟨okX11_solved, ⟨_, _, rfl⟩, kw_549, kw_550, kw_551, kw_84⟩
theorem kw_1327 : Cond.methodLink "AtomTablesLaw" 56 yX12_solved ∈ gk_T := gk_in (t6k (List.mem_of_getElem? (i := 44) rfl)) rfl
theorem kw_1328 : Cond.instanceMethod yX12_solved ∈ gk_T := gk_in (t6k (List.mem_of_getElem? (i := 45) rfl)) rfl
theorem kw_1329 : Cond.selects "AtomTablesModel" yX12_solved yX12_solved ∈ gk_T := gk_in (t6k (List.mem_of_getElem? (i := 46) rfl)) rfl
theorem cvL_56 : gk_Cv "AtomTablesLaw" 56 mX12_solved 11 4 := ⟨okX12_solved, ⟨_, _, rfl⟩, kw_1327, kw_1328, kw_1329, kw_96⟩
theorem kw_557 : Cond.methodLink "AtomTablesLaw" 57 yX11_broken ∈ gk_T := gk_in (t2k (List.mem_of_getElem? (i := 234) rfl)) rfl
theorem kw_558 : Cond.instanceMethod yX11_broken ∈ gk_T := gk_in (t2k (List.mem_of_getElem? (i := 235) rfl)) rfl
theorem kw_559 : Cond.selects "AtomTables" yX11_broken yX11_broken ∈ gk_T := gk_in (t2k (List.mem_of_getElem? (i := 236) rfl)) rfl
theorem cvL_57 : gk_Cv "AtomTablesLaw" 57 mX11_broken 10 1 := ⟨okX11_broken, ⟨_, _, rfl⟩, kw_557, kw_558, kw_559, kw_84⟩
theorem kw_1332 : Cond.methodLink "AtomTablesLaw" 60 yX12_broken ∈ gk_T := gk_in (t6k (List.mem_of_getElem? (i := 49) rfl)) rfl
theorem kw_1333 : Cond.instanceMethod yX12_broken ∈ gk_T := gk_in (t6k (List.mem_of_getElem? (i := 50) rfl)) rfl
theorem kw_1334 : Cond.selects "AtomTablesModel" yX12_broken yX12_broken ∈ gk_T := gk_in (t6k (List.mem_of_getElem? (i := 51) rfl)) rfl
theorem cvL_60 : gk_Cv "AtomTablesLaw" 60 mX12_broken 11 1 := ⟨okX12_broken, ⟨_, _, rfl⟩, kw_1332, kw_1333, kw_1334, kw_96⟩
theorem kw_573 : Cond.methodLink "AtomTablesLaw" 61 yX11_cycles ∈ gk_T := gk_in (t3k (List.mem_of_getElem? (i := 10) rfl)) rfl
theorem kw_574 : Cond.instanceMethod yX11_cycles ∈ gk_T := gk_in (t3k (List.mem_of_getElem? (i := 11) rfl)) rfl
theorem kw_575 : Cond.selects "AtomTables" yX11_cycles yX11_cycles ∈ gk_T := gk_in (t3k (List.mem_of_getElem? (i := 12) rfl)) rfl
theorem cvL_61 : gk_Cv "AtomTablesLaw" 61 mX11_cycles 10 1 := ⟨okX11_cycles, ⟨_, _, rfl⟩, kw_573, kw_574, kw_575, kw_84⟩
theorem kw_1337 : Cond.methodLink "AtomTablesLaw" 64 yX12_cycles ∈ gk_T := gk_in (t6k (List.mem_of_getElem? (i := 54) rfl)) rfl
theorem kw_1338 : Cond.instanceMethod yX12_cycles ∈ gk_T := gk_in (t6k (List.mem_of_getElem? (i := 55) rfl)) rfl
theorem kw_1339 : Cond.selects "AtomTablesModel" yX12_cycles yX12_cycles ∈ gk_T := gk_in (t6k (List.mem_of_getElem? (i := 56) rfl)) rfl
theorem cvL_64 : gk_Cv "AtomTablesLaw" 64 mX12_cycles 11 1 := ⟨okX12_cycles, ⟨_, _, rfl⟩, kw_1337, kw_1338, kw_1339, kw_96⟩
theorem kw_590 : Cond.methodLink "AtomTablesLaw" 65 yX11_node ∈ gk_T := gk_in (t3k (List.mem_of_getElem? (i := 27) rfl)) rfl
theorem kw_591 : Cond.instanceMethod yX11_node ∈ gk_T := gk_in (t3k (List.mem_of_getElem? (i := 28) rfl)) rfl
theorem kw_592 : Cond.selects "AtomTables" yX11_node yX11_node ∈ gk_T := gk_in (t3k (List.mem_of_getElem? (i := 29) rfl)) rfl
theorem cvL_65 : gk_Cv "AtomTablesLaw" 65 mX11_node 10 2 := ⟨okX11_node, ⟨_, _, rfl⟩, kw_590, kw_591, kw_592, kw_84⟩
theorem kw_1350 : Cond.methodLink "AtomTablesLaw" 68 yX12_node ∈ gk_T := gk_in (t6k (List.mem_of_getElem? (i := 67) rfl)) rfl
theorem kw_1351 : Cond.instanceMethod yX12_node ∈ gk_T := gk_in (t6k (List.mem_of_getElem? (i := 68) rfl)) rfl
theorem kw_1352 : Cond.selects "AtomTablesModel" yX12_node yX12_node ∈ gk_T := gk_in (t6k (List.mem_of_getElem? (i := 69) rfl)) rfl
theorem cvL_68 : gk_Cv "AtomTablesLaw" 68 mX12_node 11 2 := ⟨okX12_node, ⟨_, _, rfl⟩, kw_1350, kw_1351, kw_1352, kw_96⟩
theorem kw_609 : Cond.methodLink "AtomTablesLaw" 69 yX11_drop ∈ gk_T := gk_in (t3k (List.mem_of_getElem? (i := 46) rfl)) rfl
theorem kw_610 : Cond.instanceMethod yX11_drop ∈ gk_T := gk_in (t3k (List.mem_of_getElem? (i := 47) rfl)) rfl
theorem kw_611 : Cond.selects "AtomTables" yX11_drop yX11_drop ∈ gk_T := gk_in (t3k (List.mem_of_getElem? (i := 48) rfl)) rfl
theorem cvL_69 : gk_Cv "AtomTablesLaw" 69 mX11_drop 10 1 := ⟨okX11_drop, ⟨_, _, rfl⟩, kw_609, kw_610, kw_611, kw_84⟩
theorem kw_1372 : Cond.methodLink "AtomTablesLaw" 72 yX12_drop ∈ gk_T := gk_in (t6k (List.mem_of_getElem? (i := 89) rfl)) rfl
theorem kw_1373 : Cond.instanceMethod yX12_drop ∈ gk_T := gk_in (t6k (List.mem_of_getElem? (i := 90) rfl)) rfl
theorem kw_1374 : Cond.selects "AtomTablesModel" yX12_drop yX12_drop ∈ gk_T := gk_in (t6k (List.mem_of_getElem? (i := 91) rfl)) rfl
theorem cvL_72 : gk_Cv "AtomTablesLaw" 72 mX12_drop 11 1 := ⟨okX12_drop, ⟨_, _, rfl⟩, kw_1372, kw_1373, kw_1374, kw_96⟩
theorem kw_613 : Cond.methodLink "AtomTablesLaw" 73 yX11_label ∈ gk_T := gk_in (t3k (List.mem_of_getElem? (i := 50) rfl)) rfl
theorem kw_614 : Cond.instanceMethod yX11_label ∈ gk_T := gk_in (t3k (List.mem_of_getElem? (i := 51) rfl)) rfl
theorem kw_615 : Cond.selects "AtomTables" yX11_label yX11_label ∈ gk_T := gk_in (t3k (List.mem_of_getElem? (i := 52) rfl)) rfl
theorem cvL_73 : gk_Cv "AtomTablesLaw" 73 mX11_label 10 3 := ⟨okX11_label, ⟨_, _, rfl⟩, kw_613, kw_614, kw_615, kw_84⟩
theorem kw_1376 : Cond.methodLink "AtomTablesLaw" 76 yX12_label ∈ gk_T := gk_in (t6k (List.mem_of_getElem? (i := 93) rfl)) rfl
theorem kw_1377 : Cond.instanceMethod yX12_label ∈ gk_T := gk_in (t6k (List.mem_of_getElem? (i := 94) rfl)) rfl
theorem kw_1378 : Cond.selects "AtomTablesModel" yX12_label yX12_label ∈ gk_T := gk_in (t6k (List.mem_of_getElem? (i := 95) rfl)) rfl
theorem cvL_76 : gk_Cv "AtomTablesLaw" 76 mX12_label 11 3 := ⟨okX12_label, ⟨_, _, rfl⟩, kw_1376, kw_1377, kw_1378, kw_96⟩
theorem kw_625 : Cond.methodLink "AtomTablesLaw" 77 yX11_relabel ∈ gk_T := gk_in (t3k (List.mem_of_getElem? (i := 62) rfl)) rfl
theorem kw_626 : Cond.instanceMethod yX11_relabel ∈ gk_T := gk_in (t3k (List.mem_of_getElem? (i := 63) rfl)) rfl
theorem kw_627 : Cond.selects "AtomTables" yX11_relabel yX11_relabel ∈ gk_T := gk_in (t3k (List.mem_of_getElem? (i := 64) rfl)) rfl
theorem cvL_77 : gk_Cv "AtomTablesLaw" 77 mX11_relabel 10 4 := ⟨okX11_relabel, ⟨_, _, rfl⟩, kw_625, kw_626, kw_627, kw_84⟩
theorem kw_1388 : Cond.methodLink "AtomTablesLaw" 80 yX12_relabel ∈ gk_T := gk_in (t6k (List.mem_of_getElem? (i := 105) rfl)) rfl
theorem kw_1389 : Cond.instanceMethod yX12_relabel ∈ gk_T := gk_in (t6k (List.mem_of_getElem? (i := 106) rfl)) rfl
theorem kw_1390 : Cond.selects "AtomTablesModel" yX12_relabel yX12_relabel ∈ gk_T := gk_in (t6k (List.mem_of_getElem? (i := 107) rfl)) rfl
theorem cvL_80 : gk_Cv "AtomTablesLaw" 80 mX12_relabel 11 4 := ⟨okX12_relabel, ⟨_, _, rfl⟩, kw_1388, kw_1389, kw_1390, kw_96⟩
theorem kw_630 : Cond.methodLink "AtomTablesLaw" 81 yX11_copy ∈ gk_T := gk_in (t3k (List.mem_of_getElem? (i := 67) rfl)) rfl
theorem kw_631 : Cond.instanceMethod yX11_copy ∈ gk_T := gk_in (t3k (List.mem_of_getElem? (i := 68) rfl)) rfl
theorem kw_632 : Cond.selects "AtomTables" yX11_copy yX11_copy ∈ gk_T := gk_in (t3k (List.mem_of_getElem? (i := 69) rfl)) rfl
theorem cvL_81 : gk_Cv "AtomTablesLaw" 81 mX11_copy 10 2 := ⟨okX11_copy, ⟨_, _, rfl⟩, kw_630, kw_631, kw_632, kw_84⟩
theorem kw_1392 : Cond.methodLink "AtomTablesLaw" 84 yX12_copy ∈ gk_T := gk_in (t6k (List.mem_of_getElem? (i := 109) rfl)) rfl
theorem kw_1393 : Cond.instanceMethod yX12_copy ∈ gk_T := gk_in (t6k (List.mem_of_getElem? (i := 110) rfl)) rfl
theorem kw_1394 : Cond.selects "AtomTablesModel" yX12_copy yX12_copy ∈ gk_T := gk_in (t6k (List.mem_of_getElem? (i := 111) rfl)) rfl
theorem cvL_84 : gk_Cv "AtomTablesLaw" 84 mX12_copy 11 2 := ⟨okX12_copy, ⟨_, _, rfl⟩, kw_1392, kw_1393, kw_1394, kw_96⟩
theorem kw_638 : Cond.methodLink "AtomTablesLaw" 85 yX11_sound ∈ gk_T := gk_in (t3k (List.mem_of_getElem? (i := 75) rfl)) rfl
theorem kw_639 : Cond.instanceMethod yX11_sound ∈ gk_T := gk_in (t3k (List.mem_of_getElem? (i := 76) rfl)) rfl
theorem kw_640 : Cond.selects "AtomTables" yX11_sound yX11_sound ∈ gk_T := gk_in (t3k (List.mem_of_getElem? (i := 77) rfl)) rfl
theorem cvL_85 : gk_Cv "AtomTablesLaw" 85 mX11_sound 10 1 := ⟨okX11_sound, ⟨_, _, rfl⟩, kw_638, kw_639, kw_640, kw_84⟩
theorem kw_1400 : Cond.methodLink "AtomTablesLaw" 88 yX12_sound ∈ gk_T := gk_in (t6k (List.mem_of_getElem? (i := 117) rfl)) rfl
theorem kw_1401 : Cond.instanceMethod yX12_sound ∈ gk_T := gk_in (t6k (List.mem_of_getElem? (i := 118) rfl)) rfl
theorem kw_1402 : Cond.selects "AtomTablesModel" yX12_sound yX12_sound ∈ gk_T := gk_in (t6k (List.mem_of_getElem? (i := 119) rfl)) rfl
theorem cvL_88 : gk_Cv "AtomTablesLaw" 88 mX12_sound 11 1 := ⟨okX12_sound, ⟨_, _, rfl⟩, kw_1400, kw_1401, kw_1402, kw_96⟩
theorem kw_648 : Cond.methodLink "AtomTablesLaw" 89 yX11_gap ∈ gk_T := gk_in (t3k (List.mem_of_getElem? (i := 85) rfl)) rfl
theorem kw_649 : Cond.instanceMethod yX11_gap ∈ gk_T := gk_in (t3k (List.mem_of_getElem? (i := 86) rfl)) rfl
theorem kw_650 : Cond.selects "AtomTables" yX11_gap yX11_gap ∈ gk_T := gk_in (t3k (List.mem_of_getElem? (i := 87) rfl)) rfl
theorem cvL_89 : gk_Cv "AtomTablesLaw" 89 mX11_gap 10 2 := ⟨okX11_gap, ⟨_, _, rfl⟩, kw_648, kw_649, kw_650, kw_84⟩
theorem kw_1408 : Cond.methodLink "AtomTablesLaw" 92 yX12_gap ∈ gk_T := gk_in (t6k (List.mem_of_getElem? (i := 125) rfl)) rfl
theorem kw_1409 : Cond.instanceMethod yX12_gap ∈ gk_T := gk_in (t6k (List.mem_of_getElem? (i := 126) rfl)) rfl
theorem kw_1410 : Cond.selects "AtomTablesModel" yX12_gap yX12_gap ∈ gk_T := gk_in (t6k (List.mem_of_getElem? (i := 127) rfl)) rfl
theorem cvL_92 : gk_Cv "AtomTablesLaw" 92 mX12_gap 11 2 := ⟨okX12_gap, ⟨_, _, rfl⟩, kw_1408, kw_1409, kw_1410, kw_96⟩
theorem kw_672 : Cond.methodLink "AtomTablesLaw" 93 yX11_fills ∈ gk_T := gk_in (t3k (List.mem_of_getElem? (i := 109) rfl)) rfl
theorem kw_673 : Cond.instanceMethod yX11_fills ∈ gk_T := gk_in (t3k (List.mem_of_getElem? (i := 110) rfl)) rfl
theorem kw_674 : Cond.selects "AtomTables" yX11_fills yX11_fills ∈ gk_T := gk_in (t3k (List.mem_of_getElem? (i := 111) rfl)) rfl
theorem cvL_93 : gk_Cv "AtomTablesLaw" 93 mX11_fills 10 3 := ⟨okX11_fills, ⟨_, _, rfl⟩, kw_672, kw_673, kw_674, kw_84⟩
theorem kw_1440 : Cond.methodLink "AtomTablesLaw" 96 yX12_fills ∈ gk_T := gk_in (t6k (List.mem_of_getElem? (i := 157) rfl)) rfl
theorem kw_1441 : Cond.instanceMethod yX12_fills ∈ gk_T := gk_in (t6k (List.mem_of_getElem? (i := 158) rfl)) rfl
theorem kw_1442 : Cond.selects "AtomTablesModel" yX12_fills yX12_fills ∈ gk_T := gk_in (t6k (List.mem_of_getElem? (i := 159) rfl)) rfl
theorem cvL_96 : gk_Cv "AtomTablesLaw" 96 mX12_fills 11 3 := ⟨okX12_fills, ⟨_, _, rfl⟩, kw_1440, kw_1441, kw_1442, kw_96⟩
theorem kw_767 : Cond.methodLink "AtomTablesLaw" 97 yX11_occurs ∈ gk_T := gk_in (t3k (List.mem_of_getElem? (i := 204) rfl)) rfl
theorem kw_768 : Cond.instanceMethod yX11_occurs ∈ gk_T := gk_in (t3k (List.mem_of_getElem? (i := 205) rfl)) rfl
theorem kw_769 : Cond.selects "AtomTables" yX11_occurs yX11_occurs ∈ gk_T := gk_in (t3k (List.mem_of_getElem? (i := 206) rfl)) rfl
theorem cvL_97 : gk_Cv "AtomTablesLaw" 97 mX11_occurs 10 3 := ⟨okX11_occurs, ⟨_, _, rfl⟩, kw_767, kw_768, kw_769, kw_84⟩
theorem kw_1420 : Cond.methodLink "AtomTablesLaw" 100 yX12_occurs ∈ gk_T := gk_in (t6k (List.mem_of_getElem? (i := 137) rfl)) rfl
theorem kw_1421 : Cond.instanceMethod yX12_occurs ∈ gk_T := gk_in (t6k (List.mem_of_getElem? (i := 138) rfl)) rfl
theorem kw_1422 : Cond.selects "AtomTablesModel" yX12_occurs yX12_occurs ∈ gk_T := gk_in (t6k (List.mem_of_getElem? (i := 139) rfl)) rfl
theorem cvL_100 : gk_Cv "AtomTablesLaw" 100 mX12_occurs 11 3 := ⟨okX12_occurs, ⟨_, _, rfl⟩, kw_1420, kw_1421, kw_1422, kw_96⟩
theorem kw_782 : Cond.methodLink "AtomTablesLaw" 101 yX11_forbid ∈ gk_T := gk_in (t3k (List.mem_of_getElem? (i := 219) rfl)) rfl
theorem kw_783 : Cond.instanceMethod yX11_forbid ∈ gk_T := gk_in (t3k (List.mem_of_getElem? (i := 220) rfl)) rfl
theorem kw_784 : Cond.selects "AtomTables" yX11_forbid yX11_forbid ∈ gk_T := gk_in (t3k (List.mem_of_getElem? (i := 221) rfl)) rfl
theorem cvL_101 : gk_Cv "AtomTablesLaw" 101 mX11_forbid 10 1 := ⟨okX11_forbid, ⟨_, _, rfl⟩, kw_782, kw_783, kw_784, kw_84⟩
theorem kw_1436 : Cond.methodLink "AtomTablesLaw" 104 yX12_forbid ∈ gk_T := gk_in (t6k (List.mem_of_getElem? (i := 153) rfl)) rfl
theorem kw_1437 : Cond.instanceMethod yX12_forbid ∈ gk_T := gk_in (t6k (List.mem_of_getElem? (i := 154) rfl)) rfl
theorem kw_1438 : Cond.selects "AtomTablesModel" yX12_forbid yX12_forbid ∈ gk_T := gk_in (t6k (List.mem_of_getElem? (i := 155) rfl)) rfl
theorem cvL_104 : gk_Cv "AtomTablesLaw" 104 mX12_forbid 11 1 := ⟨okX12_forbid, ⟨_, _, rfl⟩, kw_1436, kw_1437, kw_1438, kw_96⟩
theorem kw_786 : Cond.methodLink "AtomTablesLaw" 105 yX11_won ∈ gk_T := gk_in (t3k (List.mem_of_getElem? (i := 223) rfl)) rfl
theorem kw_787 : Cond.instanceMethod yX11_won ∈ gk_T := gk_in (t3k (List.mem_of_getElem? (i := 224) rfl)) rfl
theorem kw_788 : Cond.selects "AtomTables" yX11_won yX11_won ∈ gk_T := gk_in (t3k (List.mem_of_getElem? (i := 225) rfl)) rfl
theorem cvL_105 : gk_Cv "AtomTablesLaw" 105 mX11_won 10 2 := ⟨okX11_won, ⟨_, _, rfl⟩, kw_786, kw_787, kw_788, kw_84⟩
theorem kw_1480 : Cond.methodLink "AtomTablesLaw" 108 yX12_won ∈ gk_T := gk_in (t6k (List.mem_of_getElem? (i := 197) rfl)) rfl
theorem kw_1481 : Cond.instanceMethod yX12_won ∈ gk_T := gk_in (t6k (List.mem_of_getElem? (i := 198) rfl)) rfl
theorem kw_1482 : Cond.selects "AtomTablesModel" yX12_won yX12_won ∈ gk_T := gk_in (t6k (List.mem_of_getElem? (i := 199) rfl)) rfl
theorem cvL_108 : gk_Cv "AtomTablesLaw" 108 mX12_won 11 2 := ⟨okX12_won, ⟨_, _, rfl⟩, kw_1480, kw_1481, kw_1482, kw_96⟩
theorem kw_835 : Cond.methodLink "AtomTablesLaw" 109 yX11_killer ∈ gk_T := gk_in (t4k (List.mem_of_getElem? (i := 32) rfl)) rfl
theorem kw_836 : Cond.instanceMethod yX11_killer ∈ gk_T := gk_in (t4k (List.mem_of_getElem? (i := 33) rfl)) rfl
theorem kw_837 : Cond.selects "AtomTables" yX11_killer yX11_killer ∈ gk_T := gk_in (t4k (List.mem_of_getElem? (i := 34) rfl)) rfl
theorem cvL_109 : gk_Cv "AtomTablesLaw" 109 mX11_killer 10 2 := ⟨okX11_killer, ⟨_, _, rfl⟩, kw_835, kw_836, kw_837, kw_84⟩
theorem kw_1492 : Cond.methodLink "AtomTablesLaw" 112 yX12_killer ∈ gk_T := gk_in (t6k (List.mem_of_getElem? (i := 209) rfl)) rfl
theorem kw_1493 : Cond.instanceMethod yX12_killer ∈ gk_T := gk_in (t6k (List.mem_of_getElem? (i := 210) rfl)) rfl
theorem kw_1494 : Cond.selects "AtomTablesModel" yX12_killer yX12_killer ∈ gk_T := gk_in (t6k (List.mem_of_getElem? (i := 211) rfl)) rfl
theorem cvL_112 : gk_Cv "AtomTablesLaw" 112 mX12_killer 11 2 := ⟨okX12_killer, ⟨_, _, rfl⟩, kw_1492, kw_1493, kw_1494, kw_96⟩
theorem kw_845 : Cond.methodLink "AtomTablesLaw" 113 yX11_lasts ∈ gk_T := gk_in (t4k (List.mem_of_getElem? (i := 42) rfl)) rfl
theorem kw_846 : Cond.instanceMethod yX11_lasts ∈ gk_T := gk_in (t4k (List.mem_of_getElem? (i := 43) rfl)) rfl
theorem kw_847 : Cond.selects "AtomTables" yX11_lasts yX11_lasts ∈ gk_T := gk_in (t4k (List.mem_of_getElem? (i := 44) rfl)) rfl
theorem cvL_113 : gk_Cv "AtomTablesLaw" 113 mX11_lasts 10 1 := ⟨okX11_lasts, ⟨_, _, rfl⟩, kw_845, kw_846, kw_847, kw_84⟩
theorem kw_1496 : Cond.methodLink "AtomTablesLaw" 116 yX12_lasts ∈ gk_T := gk_in (t6k (List.mem_of_getElem? (i := 213) rfl)) rfl
theorem kw_1497 : Cond.instanceMethod yX12_lasts ∈ gk_T := gk_in (t6k (List.mem_of_getElem? (i := 214) rfl)) rfl
theorem kw_1498 : Cond.selects "AtomTablesModel" yX12_lasts yX12_lasts ∈ gk_T := gk_in (t6k (List.mem_of_getElem? (i := 215) rfl)) rfl
theorem cvL_116 : gk_Cv "AtomTablesLaw" 116 mX12_lasts 11 1 := ⟨okX12_lasts, ⟨_, _, rfl⟩, kw_1496, kw_1497, kw_1498, kw_96⟩
theorem kw_849 : Cond.methodLink "AtomTablesLaw" 117 yX11_begin ∈ gk_T := gk_in (t4k (List.mem_of_getElem? (i := 46) rfl)) rfl
theorem kw_850 : Cond.instanceMethod yX11_begin ∈ gk_T := gk_in (t4k (List.mem_of_getElem? (i := 47) rfl)) rfl
theorem kw_851 : Cond.selects "AtomTables" yX11_begin yX11_begin ∈ gk_T := gk_in (t4k (List.mem_of_getElem? (i := 48) rfl)) rfl
theorem cvL_117 : gk_Cv "AtomTablesLaw" 117 mX11_begin 10 1 := ⟨okX11_begin, ⟨_, _, rfl⟩, kw_849, kw_850, kw_851, kw_84⟩
theorem kw_1500 : Cond.methodLink "AtomTablesLaw" 120 yX12_begin ∈ gk_T := gk_in (t6k (List.mem_of_getElem? (i := 217) rfl)) rfl
theorem kw_1501 : Cond.instanceMethod yX12_begin ∈ gk_T := gk_in (t6k (List.mem_of_getElem? (i := 218) rfl)) rfl
theorem kw_1502 : Cond.selects "AtomTablesModel" yX12_begin yX12_begin ∈ gk_T := gk_in (t6k (List.mem_of_getElem? (i := 219) rfl)) rfl
theorem cvL_120 : gk_Cv "AtomTablesLaw" 120 mX12_begin 11 1 := ⟨okX12_begin, ⟨_, _, rfl⟩, kw_1500, kw_1501, kw_1502, kw_96⟩
theorem kw_864 : Cond.methodLink "AtomTablesLaw" 121 yX11_ask ∈ gk_T := gk_in (t4k (List.mem_of_getElem? (i := 61) rfl)) rfl
theorem kw_865 : Cond.instanceMethod yX11_ask ∈ gk_T := gk_in (t4k (List.mem_of_getElem? (i := 62) rfl)) rfl
theorem kw_866 : Cond.selects "AtomTables" yX11_ask yX11_ask ∈ gk_T := gk_in (t4k (List.mem_of_getElem? (i := 63) rfl)) rfl
theorem cvL_121 : gk_Cv "AtomTablesLaw" 121 mX11_ask 10 1 := ⟨okX11_ask, ⟨_, _, rfl⟩, kw_864, kw_865, kw_866, kw_84⟩
theorem kw_1504 : Cond.methodLink "AtomTablesLaw" 124 yX12_ask ∈ gk_T := gk_in (t6k (List.mem_of_getElem? (i := 221) rfl)) rfl
theorem kw_1505 : Cond.instanceMethod yX12_ask ∈ gk_T := gk_in (t6k (List.mem_of_getElem? (i := 222) rfl)) rfl
theorem kw_1506 : Cond.selects "AtomTablesModel" yX12_ask yX12_ask ∈ gk_T := gk_in (t6k (List.mem_of_getElem? (i := 223) rfl)) rfl
theorem cvL_124 : gk_Cv "AtomTablesLaw" 124 mX12_ask 11 1 := ⟨okX12_ask, ⟨_, _, rfl⟩, kw_1504, kw_1505, kw_1506, kw_96⟩
theorem kw_868 : Cond.methodLink "AtomTablesLaw" 125 yX11_answer ∈ gk_T := gk_in (t4k (List.mem_of_getElem? (i := 65) rfl)) rfl
theorem kw_869 : Cond.instanceMethod yX11_answer ∈ gk_T := gk_in (t4k (List.mem_of_getElem? (i := 66) rfl)) rfl
theorem kw_870 : Cond.selects "AtomTables" yX11_answer yX11_answer ∈ gk_T := gk_in (t4k (List.mem_of_getElem? (i := 67) rfl)) rfl
theorem cvL_125 : gk_Cv "AtomTablesLaw" 125 mX11_answer 10 1 := ⟨okX11_answer, ⟨_, _, rfl⟩, kw_868, kw_869, kw_870, kw_84⟩
theorem kw_1508 : Cond.methodLink "AtomTablesLaw" 128 yX12_answer ∈ gk_T := gk_in (t6k (List.mem_of_getElem? (i := 225) rfl)) rfl
theorem kw_1509 : Cond.instanceMethod yX12_answer ∈ gk_T := gk_in (t6k (List.mem_of_getElem? (i := 226) rfl)) rfl
theorem kw_1510 : Cond.selects "AtomTablesModel" yX12_answer yX12_answer ∈ gk_T := gk_in (t6k (List.mem_of_getElem? (i := 227) rfl)) rfl
theorem cvL_128 : gk_Cv "AtomTablesLaw" 128 mX12_answer 11 1 := ⟨okX12_answer, ⟨_, _, rfl⟩, kw_1508, kw_1509, kw_1510, kw_96⟩
theorem kw_889 : Cond.methodLink "AtomTablesLaw" 129 yX11_later ∈ gk_T := gk_in (t4k (List.mem_of_getElem? (i := 86) rfl)) rfl
theorem kw_890 : Cond.instanceMethod yX11_later ∈ gk_T := gk_in (t4k (List.mem_of_getElem? (i := 87) rfl)) rfl
theorem kw_891 : Cond.selects "AtomTables" yX11_later yX11_later ∈ gk_T := gk_in (t4k (List.mem_of_getElem? (i := 88) rfl)) rfl
theorem cvL_129 : gk_Cv "AtomTablesLaw" 129 mX11_later 10 0 := ⟨okX11_later, ⟨_, _, rfl⟩, kw_889, kw_890, kw_891, kw_84⟩
theorem kw_1516 : Cond.methodLink "AtomTablesLaw" 133 yX12_later ∈ gk_T := gk_in (t6k (List.mem_of_getElem? (i := 233) rfl)) rfl
theorem kw_1517 : Cond.instanceMethod yX12_later ∈ gk_T := gk_in (t6k (List.mem_of_getElem? (i := 234) rfl)) rfl
theorem kw_1518 : Cond.selects "AtomTablesModel" yX12_later yX12_later ∈ gk_T := gk_in (t6k (List.mem_of_getElem? (i := 235) rfl)) rfl
theorem cvL_133 : gk_Cv "AtomTablesLaw" 133 mX12_later 11 0 := ⟨okX12_later, ⟨_, _, rfl⟩, kw_1516, kw_1517, kw_1518, kw_96⟩
theorem kw_897 : Cond.methodLink "AtomTablesLaw" 134 yX11_board ∈ gk_T := gk_in (t4k (List.mem_of_getElem? (i := 94) rfl)) rfl
theorem kw_898 : Cond.instanceMethod yX11_board ∈ gk_T := gk_in (t4k (List.mem_of_getElem? (i := 95) rfl)) rfl
theorem kw_899 : Cond.selects "AtomTables" yX11_board yX11_board ∈ gk_T := gk_in (t4k (List.mem_of_getElem? (i := 96) rfl)) rfl
theorem cvL_134 : gk_Cv "AtomTablesLaw" 134 mX11_board 10 1 := ⟨okX11_board, ⟨_, _, rfl⟩, kw_897, kw_898, kw_899, kw_84⟩
theorem kw_1520 : Cond.methodLink "AtomTablesLaw" 137 yX12_board ∈ gk_T := gk_in (t6k (List.mem_of_getElem? (i := 237) rfl)) rfl
theorem kw_1521 : Cond.instanceMethod yX12_board ∈ gk_T := gk_in (t6k (List.mem_of_getElem? (i := 238) rfl)) rfl
theorem kw_1522 : Cond.selects "AtomTablesModel" yX12_board yX12_board ∈ gk_T := gk_in (t6k (List.mem_of_getElem? (i := 239) rfl)) rfl
theorem cvL_137 : gk_Cv "AtomTablesLaw" 137 mX12_board 11 1 := ⟨okX12_board, ⟨_, _, rfl⟩, kw_1520, kw_1521, kw_1522, kw_96⟩
theorem kw_901 : Cond.methodLink "AtomTablesLaw" 138 yX11_take ∈ gk_T := gk_in (t4k (List.mem_of_getElem? (i := 98) rfl)) rfl
theorem kw_902 : Cond.instanceMethod yX11_take ∈ gk_T := gk_in (t4k (List.mem_of_getElem? (i := 99) rfl)) rfl
theorem kw_903 : Cond.selects "AtomTables" yX11_take yX11_take ∈ gk_T := gk_in (t4k (List.mem_of_getElem? (i := 100) rfl)) rfl
theorem cvL_138 : gk_Cv "AtomTablesLaw" 138 mX11_take 10 1 := ⟨okX11_take, ⟨_, _, rfl⟩, kw_901, kw_902, kw_903, kw_84⟩
theorem kw_1524 : Cond.methodLink "AtomTablesLaw" 141 yX12_take ∈ gk_T := gk_in (t7k (List.mem_of_getElem? (i := 1) rfl)) rfl
theorem kw_1525 : Cond.instanceMethod yX12_take ∈ gk_T := gk_in (t7k (List.mem_of_getElem? (i := 2) rfl)) rfl
theorem kw_1526 : Cond.selects "AtomTablesModel" yX12_take yX12_take ∈ gk_T := gk_in (t7k (List.mem_of_getElem? (i := 3) rfl)) rfl
theorem cvL_141 : gk_Cv "AtomTablesLaw" 141 mX12_take 11 1 := ⟨okX12_take, ⟨_, _, rfl⟩, kw_1524, kw_1525, kw_1526, kw_96⟩
theorem kw_905 : Cond.methodLink "AtomTablesLaw" 142 yX11_judge ∈ gk_T := gk_in (t4k (List.mem_of_getElem? (i := 102) rfl)) rfl
theorem kw_906 : Cond.instanceMethod yX11_judge ∈ gk_T := gk_in (t4k (List.mem_of_getElem? (i := 103) rfl)) rfl
theorem kw_907 : Cond.selects "AtomTables" yX11_judge yX11_judge ∈ gk_T := gk_in (t4k (List.mem_of_getElem? (i := 104) rfl)) rfl
theorem cvL_142 : gk_Cv "AtomTablesLaw" 142 mX11_judge 10 1 := ⟨okX11_judge, ⟨_, _, rfl⟩, kw_905, kw_906, kw_907, kw_84⟩
theorem kw_1528 : Cond.methodLink "AtomTablesLaw" 145 yX12_judge ∈ gk_T := gk_in (t7k (List.mem_of_getElem? (i := 5) rfl)) rfl
theorem kw_1529 : Cond.instanceMethod yX12_judge ∈ gk_T := gk_in (t7k (List.mem_of_getElem? (i := 6) rfl)) rfl
theorem kw_1530 : Cond.selects "AtomTablesModel" yX12_judge yX12_judge ∈ gk_T := gk_in (t7k (List.mem_of_getElem? (i := 7) rfl)) rfl
theorem cvL_145 : gk_Cv "AtomTablesLaw" 145 mX12_judge 11 1 := ⟨okX12_judge, ⟨_, _, rfl⟩, kw_1528, kw_1529, kw_1530, kw_96⟩
theorem kw_933 : Cond.methodLink "AtomTablesLaw" 146 yX11_found ∈ gk_T := gk_in (t4k (List.mem_of_getElem? (i := 130) rfl)) rfl
theorem kw_934 : Cond.instanceMethod yX11_found ∈ gk_T := gk_in (t4k (List.mem_of_getElem? (i := 131) rfl)) rfl
theorem kw_935 : Cond.selects "AtomTables" yX11_found yX11_found ∈ gk_T := gk_in (t4k (List.mem_of_getElem? (i := 132) rfl)) rfl
theorem cvL_146 : gk_Cv "AtomTablesLaw" 146 mX11_found 10 1 := ⟨okX11_found, ⟨_, _, rfl⟩, kw_933, kw_934, kw_935, kw_84⟩
theorem kw_1547 : Cond.methodLink "AtomTablesLaw" 149 yX12_found ∈ gk_T := gk_in (t7k (List.mem_of_getElem? (i := 24) rfl)) rfl
theorem kw_1548 : Cond.instanceMethod yX12_found ∈ gk_T := gk_in (t7k (List.mem_of_getElem? (i := 25) rfl)) rfl
theorem kw_1549 : Cond.selects "AtomTablesModel" yX12_found yX12_found ∈ gk_T := gk_in (t7k (List.mem_of_getElem? (i := 26) rfl)) rfl
theorem cvL_149 : gk_Cv "AtomTablesLaw" 149 mX12_found 11 1 := ⟨okX12_found, ⟨_, _, rfl⟩, kw_1547, kw_1548, kw_1549, kw_96⟩
theorem kw_952 : Cond.methodLink "AtomTablesLaw" 150 yX11_list ∈ gk_T := gk_in (t4k (List.mem_of_getElem? (i := 149) rfl)) rfl
theorem kw_953 : Cond.instanceMethod yX11_list ∈ gk_T := gk_in (t4k (List.mem_of_getElem? (i := 150) rfl)) rfl
theorem kw_954 : Cond.selects "AtomTables" yX11_list yX11_list ∈ gk_T := gk_in (t4k (List.mem_of_getElem? (i := 151) rfl)) rfl
theorem cvL_150 : gk_Cv "AtomTablesLaw" 150 mX11_list 10 2 := ⟨okX11_list, ⟨_, _, rfl⟩, kw_952, kw_953, kw_954, kw_84⟩
theorem kw_1555 : Cond.methodLink "AtomTablesLaw" 153 yX12_list ∈ gk_T := gk_in (t7k (List.mem_of_getElem? (i := 32) rfl)) rfl
theorem kw_1556 : Cond.instanceMethod yX12_list ∈ gk_T := gk_in (t7k (List.mem_of_getElem? (i := 33) rfl)) rfl
theorem kw_1557 : Cond.selects "AtomTablesModel" yX12_list yX12_list ∈ gk_T := gk_in (t7k (List.mem_of_getElem? (i := 34) rfl)) rfl
theorem cvL_153 : gk_Cv "AtomTablesLaw" 153 mX12_list 11 2 := ⟨okX12_list, ⟨_, _, rfl⟩, kw_1555, kw_1556, kw_1557, kw_96⟩
theorem kw_956 : Cond.methodLink "AtomTablesLaw" 156 yX11_put ∈ gk_T := gk_in (t4k (List.mem_of_getElem? (i := 153) rfl)) rfl
theorem kw_957 : Cond.instanceMethod yX11_put ∈ gk_T := gk_in (t4k (List.mem_of_getElem? (i := 154) rfl)) rfl
theorem kw_958 : Cond.selects "AtomTables" yX11_put yX11_put ∈ gk_T := gk_in (t4k (List.mem_of_getElem? (i := 155) rfl)) rfl
theorem cvL_156 : gk_Cv "AtomTablesLaw" 156 mX11_put 10 3 := ⟨okX11_put, ⟨_, _, rfl⟩, kw_956, kw_957, kw_958, kw_84⟩
theorem kw_1559 : Cond.methodLink "AtomTablesLaw" 160 yX12_put ∈ gk_T := gk_in (t7k (List.mem_of_getElem? (i := 36) rfl)) rfl
theorem kw_1560 : Cond.instanceMethod yX12_put ∈ gk_T := gk_in (t7k (List.mem_of_getElem? (i := 37) rfl)) rfl
theorem kw_1561 : Cond.selects "AtomTablesModel" yX12_put yX12_put ∈ gk_T := gk_in (t7k (List.mem_of_getElem? (i := 38) rfl)) rfl
theorem cvL_160 : gk_Cv "AtomTablesLaw" 160 mX12_put 11 3 := ⟨okX12_put, ⟨_, _, rfl⟩, kw_1559, kw_1560, kw_1561, kw_96⟩
theorem kw_960 : Cond.methodLink "AtomTablesLaw" 161 yX11_get ∈ gk_T := gk_in (t4k (List.mem_of_getElem? (i := 157) rfl)) rfl
theorem kw_961 : Cond.instanceMethod yX11_get ∈ gk_T := gk_in (t4k (List.mem_of_getElem? (i := 158) rfl)) rfl
theorem kw_962 : Cond.selects "AtomTables" yX11_get yX11_get ∈ gk_T := gk_in (t4k (List.mem_of_getElem? (i := 159) rfl)) rfl
theorem cvL_161 : gk_Cv "AtomTablesLaw" 161 mX11_get 10 2 := ⟨okX11_get, ⟨_, _, rfl⟩, kw_960, kw_961, kw_962, kw_84⟩
theorem kw_1563 : Cond.methodLink "AtomTablesLaw" 165 yX12_get ∈ gk_T := gk_in (t7k (List.mem_of_getElem? (i := 40) rfl)) rfl
theorem kw_1564 : Cond.instanceMethod yX12_get ∈ gk_T := gk_in (t7k (List.mem_of_getElem? (i := 41) rfl)) rfl
theorem kw_1565 : Cond.selects "AtomTablesModel" yX12_get yX12_get ∈ gk_T := gk_in (t7k (List.mem_of_getElem? (i := 42) rfl)) rfl
theorem cvL_165 : gk_Cv "AtomTablesLaw" 165 mX12_get 11 2 := ⟨okX12_get, ⟨_, _, rfl⟩, kw_1563, kw_1564, kw_1565, kw_96⟩
theorem kw_965 : Cond.methodLink "AtomTablesLaw" 166 yX11_feed ∈ gk_T := gk_in (t4k (List.mem_of_getElem? (i := 162) rfl)) rfl
theorem kw_966 : Cond.instanceMethod yX11_feed ∈ gk_T := gk_in (t4k (List.mem_of_getElem? (i := 163) rfl)) rfl
theorem kw_967 : Cond.selects "AtomTables" yX11_feed yX11_feed ∈ gk_T := gk_in (t4k (List.mem_of_getElem? (i := 164) rfl)) rfl
theorem cvL_166 : gk_Cv "AtomTablesLaw" 166 mX11_feed 10 1 := ⟨okX11_feed, ⟨_, _, rfl⟩, kw_965, kw_966, kw_967, kw_84⟩
theorem kw_1568 : Cond.methodLink "AtomTablesLaw" 169 yX12_feed ∈ gk_T := gk_in (t7k (List.mem_of_getElem? (i := 45) rfl)) rfl
theorem kw_1569 : Cond.instanceMethod yX12_feed ∈ gk_T := gk_in (t7k (List.mem_of_getElem? (i := 46) rfl)) rfl
theorem kw_1570 : Cond.selects "AtomTablesModel" yX12_feed yX12_feed ∈ gk_T := gk_in (t7k (List.mem_of_getElem? (i := 47) rfl)) rfl
theorem cvL_169 : gk_Cv "AtomTablesLaw" 169 mX12_feed 11 1 := ⟨okX12_feed, ⟨_, _, rfl⟩, kw_1568, kw_1569, kw_1570, kw_96⟩
theorem kw_973 : Cond.methodLink "AtomTablesLaw" 170 yX11_wipe ∈ gk_T := gk_in (t4k (List.mem_of_getElem? (i := 170) rfl)) rfl
theorem kw_974 : Cond.instanceMethod yX11_wipe ∈ gk_T := gk_in (t4k (List.mem_of_getElem? (i := 171) rfl)) rfl
theorem kw_975 : Cond.selects "AtomTables" yX11_wipe yX11_wipe ∈ gk_T := gk_in (t4k (List.mem_of_getElem? (i := 172) rfl)) rfl
theorem cvL_170 : gk_Cv "AtomTablesLaw" 170 mX11_wipe 10 0 := ⟨okX11_wipe, ⟨_, _, rfl⟩, kw_973, kw_974, kw_975, kw_84⟩
theorem kw_1574 : Cond.methodLink "AtomTablesLaw" 173 yX12_wipe ∈ gk_T := gk_in (t7k (List.mem_of_getElem? (i := 51) rfl)) rfl
theorem kw_1575 : Cond.instanceMethod yX12_wipe ∈ gk_T := gk_in (t7k (List.mem_of_getElem? (i := 52) rfl)) rfl
theorem kw_1576 : Cond.selects "AtomTablesModel" yX12_wipe yX12_wipe ∈ gk_T := gk_in (t7k (List.mem_of_getElem? (i := 53) rfl)) rfl
theorem cvL_173 : gk_Cv "AtomTablesLaw" 173 mX12_wipe 11 0 := ⟨okX12_wipe, ⟨_, _, rfl⟩, kw_1574, kw_1575, kw_1576, kw_96⟩
theorem kw_977 : Cond.methodLink "AtomTablesLaw" 174 yX11_read ∈ gk_T := gk_in (t4k (List.mem_of_getElem? (i := 174) rfl)) rfl
theorem kw_978 : Cond.instanceMethod yX11_read ∈ gk_T := gk_in (t4k (List.mem_of_getElem? (i := 175) rfl)) rfl
theorem kw_979 : Cond.selects "AtomTables" yX11_read yX11_read ∈ gk_T := gk_in (t4k (List.mem_of_getElem? (i := 176) rfl)) rfl
theorem cvL_174 : gk_Cv "AtomTablesLaw" 174 mX11_read 10 0 := ⟨okX11_read, ⟨_, _, rfl⟩, kw_977, kw_978, kw_979, kw_84⟩
theorem kw_1578 : Cond.methodLink "AtomTablesLaw" 177 yX12_read ∈ gk_T := gk_in (t7k (List.mem_of_getElem? (i := 55) rfl)) rfl
theorem kw_1579 : Cond.instanceMethod yX12_read ∈ gk_T := gk_in (t7k (List.mem_of_getElem? (i := 56) rfl)) rfl
theorem kw_1580 : Cond.selects "AtomTablesModel" yX12_read yX12_read ∈ gk_T := gk_in (t7k (List.mem_of_getElem? (i := 57) rfl)) rfl
theorem cvL_177 : gk_Cv "AtomTablesLaw" 177 mX12_read 11 0 := ⟨okX12_read, ⟨_, _, rfl⟩, kw_1578, kw_1579, kw_1580, kw_96⟩
theorem kw_1079 : Cond.methodLink "AtomTablesLaw" 178 yX11_spelled ∈ gk_T := gk_in (t5k (List.mem_of_getElem? (i := 36) rfl)) rfl
theorem kw_1080 : Cond.instanceMethod yX11_spelled ∈ gk_T := gk_in (t5k (List.mem_of_getElem? (i := 37) rfl)) rfl
theorem kw_1081 : Cond.selects "AtomTables" yX11_spelled yX11_spelled ∈ gk_T := gk_in (t5k (List.mem_of_getElem? (i := 38) rfl)) rfl
theorem cvL_178 : gk_Cv "AtomTablesLaw" 178 mX11_spelled 10 1 := ⟨okX11_spelled, ⟨_, _, rfl⟩, kw_1079, kw_1080, kw_1081, kw_84⟩
theorem kw_1601 : Cond.methodLink "AtomTablesLaw" 181 yX12_spelled ∈ gk_T := gk_in (t7k (List.mem_of_getElem? (i := 78) rfl)) rfl
theorem kw_1602 : Cond.instanceMethod yX12_spelled ∈ gk_T := gk_in (t7k (List.mem_of_getElem? (i := 79) rfl)) rfl
theorem kw_1603 : Cond.selects "AtomTablesModel" yX12_spelled yX12_spelled ∈ gk_T := gk_in (t7k (List.mem_of_getElem? (i := 80) rfl)) rfl
theorem cvL_181 : gk_Cv "AtomTablesLaw" 181 mX12_spelled 11 1 := ⟨okX12_spelled, ⟨_, _, rfl⟩, kw_1601, kw_1602, kw_1603, kw_96⟩
theorem kw_1104 : Cond.methodLink "AtomTablesLaw" 182 yX11_image ∈ gk_T := gk_in (t5k (List.mem_of_getElem? (i := 61) rfl)) rfl
theorem kw_1105 : Cond.instanceMethod yX11_image ∈ gk_T := gk_in (t5k (List.mem_of_getElem? (i := 62) rfl)) rfl
theorem kw_1106 : Cond.selects "AtomTables" yX11_image yX11_image ∈ gk_T := gk_in (t5k (List.mem_of_getElem? (i := 63) rfl)) rfl
theorem cvL_182 : gk_Cv "AtomTablesLaw" 182 mX11_image 10 0 := ⟨okX11_image, ⟨_, _, rfl⟩, kw_1104, kw_1105, kw_1106, kw_84⟩
theorem kw_1621 : Cond.methodLink "AtomTablesLaw" 185 yX12_image ∈ gk_T := gk_in (t7k (List.mem_of_getElem? (i := 98) rfl)) rfl
theorem kw_1622 : Cond.instanceMethod yX12_image ∈ gk_T := gk_in (t7k (List.mem_of_getElem? (i := 99) rfl)) rfl
theorem kw_1623 : Cond.selects "AtomTablesModel" yX12_image yX12_image ∈ gk_T := gk_in (t7k (List.mem_of_getElem? (i := 100) rfl)) rfl
theorem cvL_185 : gk_Cv "AtomTablesLaw" 185 mX12_image 11 0 := ⟨okX12_image, ⟨_, _, rfl⟩, kw_1621, kw_1622, kw_1623, kw_96⟩
theorem kw_1117 : Cond.methodLink "AtomTablesLaw" 186 yX11_undo ∈ gk_T := gk_in (t5k (List.mem_of_getElem? (i := 74) rfl)) rfl
theorem kw_1118 : Cond.instanceMethod yX11_undo ∈ gk_T := gk_in (t5k (List.mem_of_getElem? (i := 75) rfl)) rfl
theorem kw_1119 : Cond.selects "AtomTables" yX11_undo yX11_undo ∈ gk_T := gk_in (t5k (List.mem_of_getElem? (i := 76) rfl)) rfl
theorem cvL_186 : gk_Cv "AtomTablesLaw" 186 mX11_undo 10 0 := ⟨okX11_undo, ⟨_, _, rfl⟩, kw_1117, kw_1118, kw_1119, kw_84⟩
theorem kw_1625 : Cond.methodLink "AtomTablesLaw" 189 yX12_undo ∈ gk_T := gk_in (t7k (List.mem_of_getElem? (i := 102) rfl)) rfl
theorem kw_1626 : Cond.instanceMethod yX12_undo ∈ gk_T := gk_in (t7k (List.mem_of_getElem? (i := 103) rfl)) rfl
theorem kw_1627 : Cond.selects "AtomTablesModel" yX12_undo yX12_undo ∈ gk_T := gk_in (t7k (List.mem_of_getElem? (i := 104) rfl)) rfl
theorem cvL_189 : gk_Cv "AtomTablesLaw" 189 mX12_undo 11 0 := ⟨okX12_undo, ⟨_, _, rfl⟩, kw_1625, kw_1626, kw_1627, kw_96⟩
theorem kw_1121 : Cond.methodLink "AtomTablesLaw" 190 yX11_count ∈ gk_T := gk_in (t5k (List.mem_of_getElem? (i := 78) rfl)) rfl
theorem kw_1122 : Cond.instanceMethod yX11_count ∈ gk_T := gk_in (t5k (List.mem_of_getElem? (i := 79) rfl)) rfl
theorem kw_1123 : Cond.selects "AtomTables" yX11_count yX11_count ∈ gk_T := gk_in (t5k (List.mem_of_getElem? (i := 80) rfl)) rfl
theorem cvL_190 : gk_Cv "AtomTablesLaw" 190 mX11_count 10 1 := ⟨okX11_count, ⟨_, _, rfl⟩, kw_1121, kw_1122, kw_1123, kw_84⟩
theorem kw_1629 : Cond.methodLink "AtomTablesLaw" 193 yX12_count ∈ gk_T := gk_in (t7k (List.mem_of_getElem? (i := 106) rfl)) rfl
theorem kw_1630 : Cond.instanceMethod yX12_count ∈ gk_T := gk_in (t7k (List.mem_of_getElem? (i := 107) rfl)) rfl
theorem kw_1631 : Cond.selects "AtomTablesModel" yX12_count yX12_count ∈ gk_T := gk_in (t7k (List.mem_of_getElem? (i := 108) rfl)) rfl
theorem cvL_193 : gk_Cv "AtomTablesLaw" 193 mX12_count 11 1 := ⟨okX12_count, ⟨_, _, rfl⟩, kw_1629, kw_1630, kw_1631, kw_96⟩
theorem kw_1134 : Cond.methodLink "AtomTablesModel" 3 objectInit ∈ gk_T := gk_in (t5k (List.mem_of_getElem? (i := 91) rfl)) rfl
theorem kw_1135 : Cond.methodLink "AtomTablesModel" 67 yX12_fixes ∈ gk_T := gk_in (t5k (List.mem_of_getElem? (i := 92) rfl)) rfl
theorem kw_1137 : Cond.instanceMethod yX12_fixes ∈ gk_T := gk_in (t5k (List.mem_of_getElem? (i := 94) rfl)) rfl
theorem kw_34 : Cond.selects "AtomTablesModel" yX12_fixes yX12_fixes ∈ gk_T := gk_in (p3k (List.mem_of_getElem? (i := 2) rfl)) rfl
theorem cvX12_67 : gk_Cv RX12 67 mX12_fixes 11 0 := ⟨okX12_fixes, ⟨_, _, rfl⟩, kw_1135, kw_1137, kw_34, kw_96⟩
theorem kw_1249 : Cond.methodLink "AtomTablesModel" 70 yX12_isFrom ∈ gk_T := gk_in (t5k (List.mem_of_getElem? (i := 206) rfl)) rfl
theorem kw_1250 : Cond.static yX12_isFrom ∈ gk_T := gk_in (t5k (List.mem_of_getElem? (i := 207) rfl)) rfl
theorem csX12_70 : gk_Cs RX12 70 mX12_isFrom 3 := ⟨okX12_isFrom, kw_1249, kw_1250, kw_96⟩
theorem kw_1256 : Cond.methodLink "AtomTablesModel" 83 yX12_isOther ∈ gk_T := gk_in (t5k (List.mem_of_getElem? (i := 213) rfl)) rfl
theorem kw_1258 : Cond.instanceMethod yX12_isOther ∈ gk_T := gk_in (t5k (List.mem_of_getElem? (i := 215) rfl)) rfl
theorem kw_35 : Cond.selects "AtomTablesModel" yX12_isOther yX12_isOther ∈ gk_T := gk_in (p3k (List.mem_of_getElem? (i := 3) rfl)) rfl
theorem cvX12_83 : gk_Cv RX12 83 mX12_isOther 11 1 := ⟨okX12_isOther, ⟨_, _, rfl⟩, kw_1256, kw_1258, kw_35, kw_96⟩
theorem kw_1272 : Cond.methodLink "AtomTablesModel" 87 yX12_has ∈ gk_T := gk_in (t5k (List.mem_of_getElem? (i := 229) rfl)) rfl
theorem kw_1273 : Cond.static yX12_has ∈ gk_T := gk_in (t5k (List.mem_of_getElem? (i := 230) rfl)) rfl
theorem csX12_87 : gk_Cs RX12 87 mX12_has 2 := ⟨okX12_has, kw_1272, kw_1273, kw_96⟩
theorem kw_1264 : Cond.methodLink "AtomTablesModel" 91 yX12_isRelation ∈ gk_T := gk_in (t5k (List.mem_of_getElem? (i := 221) rfl)) rfl
theorem kw_1266 : Cond.instanceMethod yX12_isRelation ∈ gk_T := gk_in (t5k (List.mem_of_getElem? (i := 223) rfl)) rfl
theorem kw_36 : Cond.selects "AtomTablesModel" yX12_isRelation yX12_isRelation ∈ gk_T := gk_in (p3k (List.mem_of_getElem? (i := 4) rfl)) rfl
theorem cvX12_91 : gk_Cv RX12 91 mX12_isRelation 11 1 := ⟨okX12_isRelation, ⟨_, _, rfl⟩, kw_1264, kw_1266, kw_36, kw_96⟩
theorem kw_1268 : Cond.methodLink "AtomTablesModel" 94 yX12_turned ∈ gk_T := gk_in (t5k (List.mem_of_getElem? (i := 225) rfl)) rfl
theorem kw_1270 : Cond.instanceMethod yX12_turned ∈ gk_T := gk_in (t5k (List.mem_of_getElem? (i := 227) rfl)) rfl
theorem kw_37 : Cond.selects "AtomTablesModel" yX12_turned yX12_turned ∈ gk_T := gk_in (p3k (List.mem_of_getElem? (i := 5) rfl)) rfl
theorem cvX12_94 : gk_Cv RX12 94 mX12_turned 11 1 := ⟨okX12_turned, ⟨_, _, rfl⟩, kw_1268, kw_1270, kw_37, kw_96⟩
theorem kw_1279 : Cond.methodLink "AtomTablesModel" 98 yX12_isAtom ∈ gk_T := gk_in (t5k (List.mem_of_getElem? (i := 236) rfl)) rfl
theorem kw_1281 : Cond.instanceMethod yX12_isAtom ∈ gk_T := gk_in (t5k (List.mem_of_getElem? (i := 238) rfl)) rfl
theorem kw_38 : Cond.selects "AtomTablesModel" yX12_isAtom yX12_isAtom ∈ gk_T := gk_in (p3k (List.mem_of_getElem? (i := 6) rfl)) rfl
theorem cvX12_98 : gk_Cv RX12 98 mX12_isAtom 11 1 := ⟨okX12_isAtom, ⟨_, _, rfl⟩, kw_1279, kw_1281, kw_38, kw_96⟩
theorem kw_1283 : Cond.methodLink "AtomTablesModel" 101 yX12_turn ∈ gk_T := gk_in (t6k (List.mem_of_getElem? (i := 0) rfl)) rfl
theorem kw_1285 : Cond.instanceMethod yX12_turn ∈ gk_T := gk_in (t6k (List.mem_of_getElem? (i := 2) rfl)) rfl
theorem kw_39 : Cond.selects "AtomTablesModel" yX12_turn yX12_turn ∈ gk_T := gk_in (p3k (List.mem_of_getElem? (i := 7) rfl)) rfl
theorem cvX12_101 : gk_Cv RX12 101 mX12_turn 11 4 := ⟨okX12_turn, ⟨_, _, rfl⟩, kw_1283, kw_1285, kw_39, kw_96⟩
theorem kw_1291 : Cond.methodLink "AtomTablesModel" 105 yX12_is ∈ gk_T := gk_in (t6k (List.mem_of_getElem? (i := 8) rfl)) rfl
theorem kw_1293 : Cond.instanceMethod yX12_is ∈ gk_T := gk_in (t6k (List.mem_of_getElem? (i := 10) rfl)) rfl
theorem kw_40 : Cond.selects "AtomTablesModel" yX12_is yX12_is ∈ gk_T := gk_in (p3k (List.mem_of_getElem? (i := 8) rfl)) rfl
theorem cvX12_105 : gk_Cv RX12 105 mX12_is 11 3 := ⟨okX12_is, ⟨_, _, rfl⟩, kw_1291, kw_1293, kw_40, kw_96⟩
theorem kw_1299 : Cond.methodLink "AtomTablesModel" 109 yX12_composed ∈ gk_T := gk_in (t6k (List.mem_of_getElem? (i := 16) rfl)) rfl
theorem kw_1301 : Cond.instanceMethod yX12_composed ∈ gk_T := gk_in (t6k (List.mem_of_getElem? (i := 18) rfl)) rfl
theorem kw_41 : Cond.selects "AtomTablesModel" yX12_composed yX12_composed ∈ gk_T := gk_in (p3k (List.mem_of_getElem? (i := 9) rfl)) rfl
theorem cvX12_109 : gk_Cv RX12 109 mX12_composed 11 2 := ⟨okX12_composed, ⟨_, _, rfl⟩, kw_1299, kw_1301, kw_41, kw_96⟩
theorem kw_1307 : Cond.methodLink "AtomTablesModel" 113 yX12_composedBy ∈ gk_T := gk_in (t6k (List.mem_of_getElem? (i := 24) rfl)) rfl
theorem kw_1309 : Cond.instanceMethod yX12_composedBy ∈ gk_T := gk_in (t6k (List.mem_of_getElem? (i := 26) rfl)) rfl
theorem kw_42 : Cond.selects "AtomTablesModel" yX12_composedBy yX12_composedBy ∈ gk_T := gk_in (p3k (List.mem_of_getElem? (i := 10) rfl)) rfl
theorem cvX12_113 : gk_Cv RX12 113 mX12_composedBy 11 3 := ⟨okX12_composedBy, ⟨_, _, rfl⟩, kw_1307, kw_1309, kw_42, kw_96⟩
theorem kw_1315 : Cond.methodLink "AtomTablesModel" 117 yX12_powerOf ∈ gk_T := gk_in (t6k (List.mem_of_getElem? (i := 32) rfl)) rfl
theorem kw_1317 : Cond.instanceMethod yX12_powerOf ∈ gk_T := gk_in (t6k (List.mem_of_getElem? (i := 34) rfl)) rfl
theorem kw_43 : Cond.selects "AtomTablesModel" yX12_powerOf yX12_powerOf ∈ gk_T := gk_in (p3k (List.mem_of_getElem? (i := 11) rfl)) rfl
theorem cvX12_117 : gk_Cv RX12 117 mX12_powerOf 11 2 := ⟨okX12_powerOf, ⟨_, _, rfl⟩, kw_1315, kw_1317, kw_43, kw_96⟩
theorem kw_1323 : Cond.methodLink "AtomTablesModel" 120 yX12_isEquivalence ∈ gk_T := gk_in (t6k (List.mem_of_getElem? (i := 40) rfl)) rfl
theorem kw_1325 : Cond.instanceMethod yX12_isEquivalence ∈ gk_T := gk_in (t6k (List.mem_of_getElem? (i := 42) rfl)) rfl
theorem kw_44 : Cond.selects "AtomTablesModel" yX12_isEquivalence yX12_isEquivalence ∈ gk_T := gk_in (p3k (List.mem_of_getElem? (i := 12) rfl)) rfl
theorem cvX12_120 : gk_Cv RX12 120 mX12_isEquivalence 11 1 := ⟨okX12_isEquivalence, ⟨_, _, rfl⟩, kw_1323, kw_1325, kw_44, kw_96⟩
theorem kw_1341 : Cond.methodLink "AtomTablesModel" 127 yX12_isLeast ∈ gk_T := gk_in (t6k (List.mem_of_getElem? (i := 58) rfl)) rfl
theorem kw_1343 : Cond.instanceMethod yX12_isLeast ∈ gk_T := gk_in (t6k (List.mem_of_getElem? (i := 60) rfl)) rfl
theorem kw_45 : Cond.selects "AtomTablesModel" yX12_isLeast yX12_isLeast ∈ gk_T := gk_in (p3k (List.mem_of_getElem? (i := 13) rfl)) rfl
theorem cvX12_127 : gk_Cv RX12 127 mX12_isLeast 11 3 := ⟨okX12_isLeast, ⟨_, _, rfl⟩, kw_1341, kw_1343, kw_45, kw_96⟩
theorem kw_1345 : Cond.methodLink "AtomTablesModel" 130 yX12_cycleOf ∈ gk_T := gk_in (t6k (List.mem_of_getElem? (i := 62) rfl)) rfl
theorem kw_1347 : Cond.instanceMethod yX12_cycleOf ∈ gk_T := gk_in (t6k (List.mem_of_getElem? (i := 64) rfl)) rfl
theorem kw_46 : Cond.selects "AtomTablesModel" yX12_cycleOf yX12_cycleOf ∈ gk_T := gk_in (p3k (List.mem_of_getElem? (i := 14) rfl)) rfl
theorem cvX12_130 : gk_Cv RX12 130 mX12_cycleOf 11 3 := ⟨okX12_cycleOf, ⟨_, _, rfl⟩, kw_1345, kw_1347, kw_46, kw_96⟩
theorem kw_1349 : Cond.methodLink "AtomTablesModel" 133 yJ9_max_7cf53 ∈ gk_T := gk_in (t6k (List.mem_of_getElem? (i := 66) rfl)) rfl
theorem kw_1365 : Cond.methodLink "AtomTablesModel" 138 yX12_digit ∈ gk_T := gk_in (t6k (List.mem_of_getElem? (i := 82) rfl)) rfl
theorem kw_1366 : Cond.static yX12_digit ∈ gk_T := gk_in (t6k (List.mem_of_getElem? (i := 83) rfl)) rfl
theorem csX12_138 : gk_Cs RX12 138 mX12_digit 2 := ⟨okX12_digit, kw_1365, kw_1366, kw_96⟩
theorem kw_1368 : Cond.methodLink "AtomTablesModel" 141 yX12_lays ∈ gk_T := gk_in (t6k (List.mem_of_getElem? (i := 85) rfl)) rfl
theorem kw_1370 : Cond.instanceMethod yX12_lays ∈ gk_T := gk_in (t6k (List.mem_of_getElem? (i := 87) rfl)) rfl
theorem kw_49 : Cond.selects "AtomTablesModel" yX12_lays yX12_lays ∈ gk_T := gk_in (p4k (List.mem_of_getElem? (i := 1) rfl)) rfl
theorem cvX12_141 : gk_Cv RX12 141 mX12_lays 11 4 := ⟨okX12_lays, ⟨_, _, rfl⟩, kw_1368, kw_1370, kw_49, kw_96⟩
theorem kw_1354 : Cond.methodLink "AtomTablesModel" 145 yX12_isNet ∈ gk_T := gk_in (t6k (List.mem_of_getElem? (i := 71) rfl)) rfl
theorem kw_1355 : Cond.static yX12_isNet ∈ gk_T := gk_in (t6k (List.mem_of_getElem? (i := 72) rfl)) rfl
theorem csX12_145 : gk_Cs RX12 145 mX12_isNet 1 := ⟨okX12_isNet, kw_1354, kw_1355, kw_96⟩
theorem kw_1357 : Cond.methodLink "AtomTablesModel" 148 yX12_areAtoms ∈ gk_T := gk_in (t6k (List.mem_of_getElem? (i := 74) rfl)) rfl
theorem kw_1359 : Cond.instanceMethod yX12_areAtoms ∈ gk_T := gk_in (t6k (List.mem_of_getElem? (i := 76) rfl)) rfl
theorem kw_47 : Cond.selects "AtomTablesModel" yX12_areAtoms yX12_areAtoms ∈ gk_T := gk_in (p3k (List.mem_of_getElem? (i := 15) rfl)) rfl
theorem cvX12_148 : gk_Cv RX12 148 mX12_areAtoms 11 2 := ⟨okX12_areAtoms, ⟨_, _, rfl⟩, kw_1357, kw_1359, kw_47, kw_96⟩
theorem kw_1361 : Cond.methodLink "AtomTablesModel" 151 yX12_comes ∈ gk_T := gk_in (t6k (List.mem_of_getElem? (i := 78) rfl)) rfl
theorem kw_1363 : Cond.instanceMethod yX12_comes ∈ gk_T := gk_in (t6k (List.mem_of_getElem? (i := 80) rfl)) rfl
theorem kw_48 : Cond.selects "AtomTablesModel" yX12_comes yX12_comes ∈ gk_T := gk_in (p4k (List.mem_of_getElem? (i := 0) rfl)) rfl
theorem cvX12_151 : gk_Cv RX12 151 mX12_comes 11 2 := ⟨okX12_comes, ⟨_, _, rfl⟩, kw_1361, kw_1363, kw_48, kw_96⟩
theorem kw_1380 : Cond.methodLink "AtomTablesModel" 155 yX12_isNode ∈ gk_T := gk_in (t6k (List.mem_of_getElem? (i := 97) rfl)) rfl
theorem kw_1382 : Cond.instanceMethod yX12_isNode ∈ gk_T := gk_in (t6k (List.mem_of_getElem? (i := 99) rfl)) rfl
theorem kw_50 : Cond.selects "AtomTablesModel" yX12_isNode yX12_isNode ∈ gk_T := gk_in (p4k (List.mem_of_getElem? (i := 2) rfl)) rfl
theorem cvX12_155 : gk_Cv RX12 155 mX12_isNode 11 2 := ⟨okX12_isNode, ⟨_, _, rfl⟩, kw_1380, kw_1382, kw_50, kw_96⟩
theorem kw_1384 : Cond.methodLink "AtomTablesModel" 158 yX12_labelOf ∈ gk_T := gk_in (t6k (List.mem_of_getElem? (i := 101) rfl)) rfl
theorem kw_1386 : Cond.instanceMethod yX12_labelOf ∈ gk_T := gk_in (t6k (List.mem_of_getElem? (i := 103) rfl)) rfl
theorem kw_51 : Cond.selects "AtomTablesModel" yX12_labelOf yX12_labelOf ∈ gk_T := gk_in (p4k (List.mem_of_getElem? (i := 3) rfl)) rfl
theorem cvX12_158 : gk_Cv RX12 158 mX12_labelOf 11 3 := ⟨okX12_labelOf, ⟨_, _, rfl⟩, kw_1384, kw_1386, kw_51, kw_96⟩
theorem kw_1396 : Cond.methodLink "AtomTablesModel" 161 yX12_likens ∈ gk_T := gk_in (t6k (List.mem_of_getElem? (i := 113) rfl)) rfl
theorem kw_1398 : Cond.instanceMethod yX12_likens ∈ gk_T := gk_in (t6k (List.mem_of_getElem? (i := 115) rfl)) rfl
theorem kw_52 : Cond.selects "AtomTablesModel" yX12_likens yX12_likens ∈ gk_T := gk_in (p4k (List.mem_of_getElem? (i := 4) rfl)) rfl
theorem cvX12_161 : gk_Cv RX12 161 mX12_likens 11 2 := ⟨okX12_likens, ⟨_, _, rfl⟩, kw_1396, kw_1398, kw_52, kw_96⟩
theorem kw_1404 : Cond.methodLink "AtomTablesModel" 164 yX12_unsound ∈ gk_T := gk_in (t6k (List.mem_of_getElem? (i := 121) rfl)) rfl
theorem kw_1406 : Cond.instanceMethod yX12_unsound ∈ gk_T := gk_in (t6k (List.mem_of_getElem? (i := 123) rfl)) rfl
theorem kw_53 : Cond.selects "AtomTablesModel" yX12_unsound yX12_unsound ∈ gk_T := gk_in (p4k (List.mem_of_getElem? (i := 5) rfl)) rfl
theorem cvX12_164 : gk_Cv RX12 164 mX12_unsound 11 1 := ⟨okX12_unsound, ⟨_, _, rfl⟩, kw_1404, kw_1406, kw_53, kw_96⟩
theorem kw_1416 : Cond.methodLink "AtomTablesModel" 167 yX12_isGap ∈ gk_T := gk_in (t6k (List.mem_of_getElem? (i := 133) rfl)) rfl
theorem kw_1418 : Cond.instanceMethod yX12_isGap ∈ gk_T := gk_in (t6k (List.mem_of_getElem? (i := 135) rfl)) rfl
theorem kw_55 : Cond.selects "AtomTablesModel" yX12_isGap yX12_isGap ∈ gk_T := gk_in (p4k (List.mem_of_getElem? (i := 7) rfl)) rfl
theorem cvX12_167 : gk_Cv RX12 167 mX12_isGap 11 5 := ⟨okX12_isGap, ⟨_, _, rfl⟩, kw_1416, kw_1418, kw_55, kw_96⟩
theorem kw_1412 : Cond.methodLink "AtomTablesModel" 171 yX12_gapBehind ∈ gk_T := gk_in (t6k (List.mem_of_getElem? (i := 129) rfl)) rfl
theorem kw_1414 : Cond.instanceMethod yX12_gapBehind ∈ gk_T := gk_in (t6k (List.mem_of_getElem? (i := 131) rfl)) rfl
theorem kw_54 : Cond.selects "AtomTablesModel" yX12_gapBehind yX12_gapBehind ∈ gk_T := gk_in (p4k (List.mem_of_getElem? (i := 6) rfl)) rfl
theorem cvX12_171 : gk_Cv RX12 171 mX12_gapBehind 11 2 := ⟨okX12_gapBehind, ⟨_, _, rfl⟩, kw_1412, kw_1414, kw_54, kw_96⟩
theorem kw_1432 : Cond.methodLink "AtomTablesModel" 183 yX12_isLike ∈ gk_T := gk_in (t6k (List.mem_of_getElem? (i := 149) rfl)) rfl
theorem kw_1434 : Cond.instanceMethod yX12_isLike ∈ gk_T := gk_in (t6k (List.mem_of_getElem? (i := 151) rfl)) rfl
theorem kw_58 : Cond.selects "AtomTablesModel" yX12_isLike yX12_isLike ∈ gk_T := gk_in (p4k (List.mem_of_getElem? (i := 10) rfl)) rfl
theorem cvX12_183 : gk_Cv RX12 183 mX12_isLike 11 5 := ⟨okX12_isLike, ⟨_, _, rfl⟩, kw_1432, kw_1434, kw_58, kw_96⟩
theorem kw_1428 : Cond.methodLink "AtomTablesModel" 186 yX12_seeks ∈ gk_T := gk_in (t6k (List.mem_of_getElem? (i := 145) rfl)) rfl
theorem kw_1430 : Cond.instanceMethod yX12_seeks ∈ gk_T := gk_in (t6k (List.mem_of_getElem? (i := 147) rfl)) rfl
theorem kw_57 : Cond.selects "AtomTablesModel" yX12_seeks yX12_seeks ∈ gk_T := gk_in (p4k (List.mem_of_getElem? (i := 9) rfl)) rfl
theorem cvX12_186 : gk_Cv RX12 186 mX12_seeks 11 5 := ⟨okX12_seeks, ⟨_, _, rfl⟩, kw_1428, kw_1430, kw_57, kw_96⟩
theorem kw_1424 : Cond.methodLink "AtomTablesModel" 189 yX12_looks ∈ gk_T := gk_in (t6k (List.mem_of_getElem? (i := 141) rfl)) rfl
theorem kw_1426 : Cond.instanceMethod yX12_looks ∈ gk_T := gk_in (t6k (List.mem_of_getElem? (i := 143) rfl)) rfl
theorem kw_56 : Cond.selects "AtomTablesModel" yX12_looks yX12_looks ∈ gk_T := gk_in (p4k (List.mem_of_getElem? (i := 8) rfl)) rfl
theorem cvX12_189 : gk_Cv RX12 189 mX12_looks 11 3 := ⟨okX12_looks, ⟨_, _, rfl⟩, kw_1424, kw_1426, kw_56, kw_96⟩
theorem kw_1460 : Cond.methodLink "AtomTablesModel" 193 yX12_isFilled ∈ gk_T := gk_in (t6k (List.mem_of_getElem? (i := 177) rfl)) rfl
theorem kw_1462 : Cond.instanceMethod yX12_isFilled ∈ gk_T := gk_in (t6k (List.mem_of_getElem? (i := 179) rfl)) rfl
theorem kw_63 : Cond.selects "AtomTablesModel" yX12_isFilled yX12_isFilled ∈ gk_T := gk_in (p4k (List.mem_of_getElem? (i := 15) rfl)) rfl
theorem cvX12_193 : gk_Cv RX12 193 mX12_isFilled 11 2 := ⟨okX12_isFilled, ⟨_, _, rfl⟩, kw_1460, kw_1462, kw_63, kw_96⟩
theorem kw_1476 : Cond.methodLink "AtomTablesModel" 196 yX12_mayStand ∈ gk_T := gk_in (t6k (List.mem_of_getElem? (i := 193) rfl)) rfl
theorem kw_1478 : Cond.instanceMethod yX12_mayStand ∈ gk_T := gk_in (t6k (List.mem_of_getElem? (i := 195) rfl)) rfl
theorem kw_67 : Cond.selects "AtomTablesModel" yX12_mayStand yX12_mayStand ∈ gk_T := gk_in (p5k (List.mem_of_getElem? (i := 3) rfl)) rfl
theorem cvX12_196 : gk_Cv RX12 196 mX12_mayStand 11 2 := ⟨okX12_mayStand, ⟨_, _, rfl⟩, kw_1476, kw_1478, kw_67, kw_96⟩
theorem kw_1456 : Cond.methodLink "AtomTablesModel" 199 yX12_fillsFrom ∈ gk_T := gk_in (t6k (List.mem_of_getElem? (i := 173) rfl)) rfl
theorem kw_1458 : Cond.instanceMethod yX12_fillsFrom ∈ gk_T := gk_in (t6k (List.mem_of_getElem? (i := 175) rfl)) rfl
theorem kw_62 : Cond.selects "AtomTablesModel" yX12_fillsFrom yX12_fillsFrom ∈ gk_T := gk_in (p4k (List.mem_of_getElem? (i := 14) rfl)) rfl
theorem cvX12_199 : gk_Cv RX12 199 mX12_fillsFrom 11 5 := ⟨okX12_fillsFrom, ⟨_, _, rfl⟩, kw_1456, kw_1458, kw_62, kw_96⟩
theorem kw_1464 : Cond.methodLink "AtomTablesModel" 202 yX12_isBarred ∈ gk_T := gk_in (t6k (List.mem_of_getElem? (i := 181) rfl)) rfl
theorem kw_1466 : Cond.instanceMethod yX12_isBarred ∈ gk_T := gk_in (t6k (List.mem_of_getElem? (i := 183) rfl)) rfl
theorem kw_64 : Cond.selects "AtomTablesModel" yX12_isBarred yX12_isBarred ∈ gk_T := gk_in (p5k (List.mem_of_getElem? (i := 0) rfl)) rfl
theorem cvX12_202 : gk_Cv RX12 202 mX12_isBarred 11 1 := ⟨okX12_isBarred, ⟨_, _, rfl⟩, kw_1464, kw_1466, kw_64, kw_96⟩
theorem kw_1468 : Cond.methodLink "AtomTablesModel" 205 yX12_isWon ∈ gk_T := gk_in (t6k (List.mem_of_getElem? (i := 185) rfl)) rfl
theorem kw_1470 : Cond.instanceMethod yX12_isWon ∈ gk_T := gk_in (t6k (List.mem_of_getElem? (i := 187) rfl)) rfl
theorem kw_65 : Cond.selects "AtomTablesModel" yX12_isWon yX12_isWon ∈ gk_T := gk_in (p5k (List.mem_of_getElem? (i := 1) rfl)) rfl
theorem cvX12_205 : gk_Cv RX12 205 mX12_isWon 11 1 := ⟨okX12_isWon, ⟨_, _, rfl⟩, kw_1468, kw_1470, kw_65, kw_96⟩
theorem kw_1452 : Cond.methodLink "AtomTablesModel" 208 yX12_isFillable ∈ gk_T := gk_in (t6k (List.mem_of_getElem? (i := 169) rfl)) rfl
theorem kw_1454 : Cond.instanceMethod yX12_isFillable ∈ gk_T := gk_in (t6k (List.mem_of_getElem? (i := 171) rfl)) rfl
theorem kw_61 : Cond.selects "AtomTablesModel" yX12_isFillable yX12_isFillable ∈ gk_T := gk_in (p4k (List.mem_of_getElem? (i := 13) rfl)) rfl
theorem cvX12_208 : gk_Cv RX12 208 mX12_isFillable 11 2 := ⟨okX12_isFillable, ⟨_, _, rfl⟩, kw_1452, kw_1454, kw_61, kw_96⟩
theorem kw_1444 : Cond.methodLink "AtomTablesModel" 211 yX12_isGapOf ∈ gk_T := gk_in (t6k (List.mem_of_getElem? (i := 161) rfl)) rfl
theorem kw_1446 : Cond.instanceMethod yX12_isGapOf ∈ gk_T := gk_in (t6k (List.mem_of_getElem? (i := 163) rfl)) rfl
theorem kw_59 : Cond.selects "AtomTablesModel" yX12_isGapOf yX12_isGapOf ∈ gk_T := gk_in (p4k (List.mem_of_getElem? (i := 11) rfl)) rfl
theorem cvX12_211 : gk_Cv RX12 211 mX12_isGapOf 11 2 := ⟨okX12_isGapOf, ⟨_, _, rfl⟩, kw_1444, kw_1446, kw_59, kw_96⟩
theorem kw_1448 : Cond.methodLink "AtomTablesModel" 214 yX12_looksToFill ∈ gk_T := gk_in (t6k (List.mem_of_getElem? (i := 165) rfl)) rfl
theorem kw_1450 : Cond.instanceMethod yX12_looksToFill ∈ gk_T := gk_in (t6k (List.mem_of_getElem? (i := 167) rfl)) rfl
theorem kw_60 : Cond.selects "AtomTablesModel" yX12_looksToFill yX12_looksToFill ∈ gk_T := gk_in (p4k (List.mem_of_getElem? (i := 12) rfl)) rfl
theorem cvX12_214 : gk_Cv RX12 214 mX12_looksToFill 11 3 := ⟨okX12_looksToFill, ⟨_, _, rfl⟩, kw_1448, kw_1450, kw_60, kw_96⟩
theorem kw_1472 : Cond.methodLink "AtomTablesModel" 217 yX12_killerOf ∈ gk_T := gk_in (t6k (List.mem_of_getElem? (i := 189) rfl)) rfl
theorem kw_1474 : Cond.instanceMethod yX12_killerOf ∈ gk_T := gk_in (t6k (List.mem_of_getElem? (i := 191) rfl)) rfl
theorem kw_66 : Cond.selects "AtomTablesModel" yX12_killerOf yX12_killerOf ∈ gk_T := gk_in (p5k (List.mem_of_getElem? (i := 2) rfl)) rfl
theorem cvX12_217 : gk_Cv RX12 217 mX12_killerOf 11 1 := ⟨okX12_killerOf, ⟨_, _, rfl⟩, kw_1472, kw_1474, kw_66, kw_96⟩
theorem kw_1488 : Cond.methodLink "AtomTablesModel" 220 yX12_isPlayed ∈ gk_T := gk_in (t6k (List.mem_of_getElem? (i := 205) rfl)) rfl
theorem kw_1490 : Cond.instanceMethod yX12_isPlayed ∈ gk_T := gk_in (t6k (List.mem_of_getElem? (i := 207) rfl)) rfl
theorem kw_69 : Cond.selects "AtomTablesModel" yX12_isPlayed yX12_isPlayed ∈ gk_T := gk_in (p5k (List.mem_of_getElem? (i := 5) rfl)) rfl
theorem cvX12_220 : gk_Cv RX12 220 mX12_isPlayed 11 1 := ⟨okX12_isPlayed, ⟨_, _, rfl⟩, kw_1488, kw_1490, kw_69, kw_96⟩
theorem kw_1484 : Cond.methodLink "AtomTablesModel" 223 yX12_whyNot ∈ gk_T := gk_in (t6k (List.mem_of_getElem? (i := 201) rfl)) rfl
theorem kw_1486 : Cond.instanceMethod yX12_whyNot ∈ gk_T := gk_in (t6k (List.mem_of_getElem? (i := 203) rfl)) rfl
theorem kw_68 : Cond.selects "AtomTablesModel" yX12_whyNot yX12_whyNot ∈ gk_T := gk_in (p5k (List.mem_of_getElem? (i := 4) rfl)) rfl
theorem cvX12_223 : gk_Cv RX12 223 mX12_whyNot 11 2 := ⟨okX12_whyNot, ⟨_, _, rfl⟩, kw_1484, kw_1486, kw_68, kw_96⟩
theorem kw_1512 : Cond.methodLink "AtomTablesModel" 232 yX12_isFillOf ∈ gk_T := gk_in (t6k (List.mem_of_getElem? (i := 229) rfl)) rfl
theorem kw_1514 : Cond.instanceMethod yX12_isFillOf ∈ gk_T := gk_in (t6k (List.mem_of_getElem? (i := 231) rfl)) rfl
theorem kw_70 : Cond.selects "AtomTablesModel" yX12_isFillOf yX12_isFillOf ∈ gk_T := gk_in (p5k (List.mem_of_getElem? (i := 6) rfl)) rfl
theorem cvX12_232 : gk_Cv RX12 232 mX12_isFillOf 11 2 := ⟨okX12_isFillOf, ⟨_, _, rfl⟩, kw_1512, kw_1514, kw_70, kw_96⟩
theorem kw_1543 : Cond.methodLink "AtomTablesModel" 238 yX12_isMet ∈ gk_T := gk_in (t7k (List.mem_of_getElem? (i := 20) rfl)) rfl
theorem kw_1545 : Cond.instanceMethod yX12_isMet ∈ gk_T := gk_in (t7k (List.mem_of_getElem? (i := 22) rfl)) rfl
theorem kw_73 : Cond.selects "AtomTablesModel" yX12_isMet yX12_isMet ∈ gk_T := gk_in (p5k (List.mem_of_getElem? (i := 9) rfl)) rfl
theorem cvX12_238 : gk_Cv RX12 238 mX12_isMet 11 3 := ⟨okX12_isMet, ⟨_, _, rfl⟩, kw_1543, kw_1545, kw_73, kw_96⟩
theorem kw_1532 : Cond.methodLink "AtomTablesModel" 241 yX12_isList ∈ gk_T := gk_in (t7k (List.mem_of_getElem? (i := 9) rfl)) rfl
theorem kw_1533 : Cond.static yX12_isList ∈ gk_T := gk_in (t7k (List.mem_of_getElem? (i := 10) rfl)) rfl
theorem csX12_241 : gk_Cs RX12 241 mX12_isList 1 := ⟨okX12_isList, kw_1532, kw_1533, kw_96⟩
theorem kw_1535 : Cond.methodLink "AtomTablesModel" 244 yX12_isAllHad ∈ gk_T := gk_in (t7k (List.mem_of_getElem? (i := 12) rfl)) rfl
theorem kw_1537 : Cond.instanceMethod yX12_isAllHad ∈ gk_T := gk_in (t7k (List.mem_of_getElem? (i := 14) rfl)) rfl
theorem kw_71 : Cond.selects "AtomTablesModel" yX12_isAllHad yX12_isAllHad ∈ gk_T := gk_in (p5k (List.mem_of_getElem? (i := 7) rfl)) rfl
theorem cvX12_244 : gk_Cv RX12 244 mX12_isAllHad 11 0 := ⟨okX12_isAllHad, ⟨_, _, rfl⟩, kw_1535, kw_1537, kw_71, kw_96⟩
theorem kw_1539 : Cond.methodLink "AtomTablesModel" 248 yX12_falseStep ∈ gk_T := gk_in (t7k (List.mem_of_getElem? (i := 16) rfl)) rfl
theorem kw_1541 : Cond.instanceMethod yX12_falseStep ∈ gk_T := gk_in (t7k (List.mem_of_getElem? (i := 18) rfl)) rfl
theorem kw_72 : Cond.selects "AtomTablesModel" yX12_falseStep yX12_falseStep ∈ gk_T := gk_in (p5k (List.mem_of_getElem? (i := 8) rfl)) rfl
theorem cvX12_248 : gk_Cv RX12 248 mX12_falseStep 11 0 := ⟨okX12_falseStep, ⟨_, _, rfl⟩, kw_1539, kw_1541, kw_72, kw_96⟩
theorem kw_1551 : Cond.methodLink "AtomTablesModel" 252 yX12_isPictured ∈ gk_T := gk_in (t7k (List.mem_of_getElem? (i := 28) rfl)) rfl
theorem kw_1553 : Cond.instanceMethod yX12_isPictured ∈ gk_T := gk_in (t7k (List.mem_of_getElem? (i := 30) rfl)) rfl
theorem kw_74 : Cond.selects "AtomTablesModel" yX12_isPictured yX12_isPictured ∈ gk_T := gk_in (p5k (List.mem_of_getElem? (i := 10) rfl)) rfl
theorem cvX12_252 : gk_Cv RX12 252 mX12_isPictured 11 1 := ⟨okX12_isPictured, ⟨_, _, rfl⟩, kw_1551, kw_1553, kw_74, kw_96⟩
theorem kw_1590 : Cond.methodLink "AtomTablesModel" 270 yX12_isAt ∈ gk_T := gk_in (t7k (List.mem_of_getElem? (i := 67) rfl)) rfl
theorem kw_1592 : Cond.instanceMethod yX12_isAt ∈ gk_T := gk_in (t7k (List.mem_of_getElem? (i := 69) rfl)) rfl
theorem kw_77 : Cond.selects "AtomTablesModel" yX12_isAt yX12_isAt ∈ gk_T := gk_in (p5k (List.mem_of_getElem? (i := 13) rfl)) rfl
theorem cvX12_270 : gk_Cv RX12 270 mX12_isAt 11 2 := ⟨okX12_isAt, ⟨_, _, rfl⟩, kw_1590, kw_1592, kw_77, kw_96⟩
theorem kw_1586 : Cond.methodLink "AtomTablesModel" 273 yX12_word ∈ gk_T := gk_in (t7k (List.mem_of_getElem? (i := 63) rfl)) rfl
theorem kw_1588 : Cond.instanceMethod yX12_word ∈ gk_T := gk_in (t7k (List.mem_of_getElem? (i := 65) rfl)) rfl
theorem kw_76 : Cond.selects "AtomTablesModel" yX12_word yX12_word ∈ gk_T := gk_in (p5k (List.mem_of_getElem? (i := 12) rfl)) rfl
theorem cvX12_273 : gk_Cv RX12 273 mX12_word 11 0 := ⟨okX12_word, ⟨_, _, rfl⟩, kw_1586, kw_1588, kw_76, kw_96⟩
theorem kw_1598 : Cond.methodLink "AtomTablesModel" 276 yX12_atoms ∈ gk_T := gk_in (t7k (List.mem_of_getElem? (i := 75) rfl)) rfl
theorem cvX12_276 : gk_Cv RX12 276 mX12_atoms 11 1 := ⟨okX12_atoms, ⟨_, _, rfl⟩, kw_1598, kw_1245, kw_1246, kw_96⟩
theorem kw_1599 : Cond.methodLink "AtomTablesModel" 278 yX12_pair ∈ gk_T := gk_in (t7k (List.mem_of_getElem? (i := 76) rfl)) rfl
theorem cvX12_278 : gk_Cv RX12 278 mX12_pair 11 2 := ⟨okX12_pair, ⟨_, _, rfl⟩, kw_1599, kw_1253, kw_1254, kw_96⟩
theorem kw_1600 : Cond.methodLink "AtomTablesModel" 281 yX12_triangle ∈ gk_T := gk_in (t7k (List.mem_of_getElem? (i := 77) rfl)) rfl
theorem cvX12_281 : gk_Cv RX12 281 mX12_triangle 11 4 := ⟨okX12_triangle, ⟨_, _, rfl⟩, kw_1600, kw_1276, kw_1277, kw_96⟩
theorem kw_1582 : Cond.methodLink "AtomTablesModel" 284 yX12_statement ∈ gk_T := gk_in (t7k (List.mem_of_getElem? (i := 59) rfl)) rfl
theorem kw_1584 : Cond.instanceMethod yX12_statement ∈ gk_T := gk_in (t7k (List.mem_of_getElem? (i := 61) rfl)) rfl
theorem kw_75 : Cond.selects "AtomTablesModel" yX12_statement yX12_statement ∈ gk_T := gk_in (p5k (List.mem_of_getElem? (i := 11) rfl)) rfl
theorem cvX12_284 : gk_Cv RX12 284 mX12_statement 11 0 := ⟨okX12_statement, ⟨_, _, rfl⟩, kw_1582, kw_1584, kw_75, kw_96⟩
theorem kw_1594 : Cond.methodLink "AtomTablesModel" 287 yX12_isDone ∈ gk_T := gk_in (t7k (List.mem_of_getElem? (i := 71) rfl)) rfl
theorem kw_1596 : Cond.instanceMethod yX12_isDone ∈ gk_T := gk_in (t7k (List.mem_of_getElem? (i := 73) rfl)) rfl
theorem kw_78 : Cond.selects "AtomTablesModel" yX12_isDone yX12_isDone ∈ gk_T := gk_in (p5k (List.mem_of_getElem? (i := 14) rfl)) rfl
theorem cvX12_287 : gk_Cv RX12 287 mX12_isDone 11 1 := ⟨okX12_isDone, ⟨_, _, rfl⟩, kw_1594, kw_1596, kw_78, kw_96⟩
theorem kw_1613 : Cond.methodLink "AtomTablesModel" 299 yX12_writes ∈ gk_T := gk_in (t7k (List.mem_of_getElem? (i := 90) rfl)) rfl
theorem kw_1615 : Cond.instanceMethod yX12_writes ∈ gk_T := gk_in (t7k (List.mem_of_getElem? (i := 92) rfl)) rfl
theorem kw_81 : Cond.selects "AtomTablesModel" yX12_writes yX12_writes ∈ gk_T := gk_in (p6k (List.mem_of_getElem? (i := 1) rfl)) rfl
theorem cvX12_299 : gk_Cv RX12 299 mX12_writes 11 1 := ⟨okX12_writes, ⟨_, _, rfl⟩, kw_1613, kw_1615, kw_81, kw_96⟩
theorem kw_1609 : Cond.methodLink "AtomTablesModel" 303 yX12_writesWord ∈ gk_T := gk_in (t7k (List.mem_of_getElem? (i := 86) rfl)) rfl
theorem kw_1611 : Cond.instanceMethod yX12_writesWord ∈ gk_T := gk_in (t7k (List.mem_of_getElem? (i := 88) rfl)) rfl
theorem kw_80 : Cond.selects "AtomTablesModel" yX12_writesWord yX12_writesWord ∈ gk_T := gk_in (p6k (List.mem_of_getElem? (i := 0) rfl)) rfl
theorem cvX12_303 : gk_Cv RX12 303 mX12_writesWord 11 1 := ⟨okX12_writesWord, ⟨_, _, rfl⟩, kw_1609, kw_1611, kw_80, kw_96⟩
theorem kw_1617 : Cond.methodLink "AtomTablesModel" 306 yX12_writesFigure ∈ gk_T := gk_in (t7k (List.mem_of_getElem? (i := 94) rfl)) rfl
theorem kw_1619 : Cond.instanceMethod yX12_writesFigure ∈ gk_T := gk_in (t7k (List.mem_of_getElem? (i := 96) rfl)) rfl
theorem kw_82 : Cond.selects "AtomTablesModel" yX12_writesFigure yX12_writesFigure ∈ gk_T := gk_in (p6k (List.mem_of_getElem? (i := 2) rfl)) rfl
theorem cvX12_306 : gk_Cv RX12 306 mX12_writesFigure 11 1 := ⟨okX12_writesFigure, ⟨_, _, rfl⟩, kw_1617, kw_1619, kw_82, kw_96⟩
theorem kw_1605 : Cond.methodLink "AtomTablesModel" 309 yX12_spells ∈ gk_T := gk_in (t7k (List.mem_of_getElem? (i := 82) rfl)) rfl
theorem kw_1607 : Cond.instanceMethod yX12_spells ∈ gk_T := gk_in (t7k (List.mem_of_getElem? (i := 84) rfl)) rfl
theorem kw_79 : Cond.selects "AtomTablesModel" yX12_spells yX12_spells ∈ gk_T := gk_in (p5k (List.mem_of_getElem? (i := 15) rfl)) rfl
theorem cvX12_309 : gk_Cv RX12 309 mX12_spells 11 0 := ⟨okX12_spells, ⟨_, _, rfl⟩, kw_1605, kw_1607, kw_79, kw_96⟩
theorem kw_735 : Cond.constant "AtomTables$Filler" 69 1000000 ∈ gk_T := gk_in (t3k (List.mem_of_getElem? (i := 172) rfl)) rfl
theorem kcX1_69 : Cond.constant RX1 69 (nI 1000000) ∈ gk_T := kw_735
theorem kw_819 : Cond.constant "AtomTables$Game" 69 1000000 ∈ gk_T := gk_in (t4k (List.mem_of_getElem? (i := 16) rfl)) rfl
theorem kcX2_69 : Cond.constant RX2 69 (nI 1000000) ∈ gk_T := kw_819
theorem kw_775 : Cond.constant "AtomTables$Patterns" 35 1000000 ∈ gk_T := gk_in (t3k (List.mem_of_getElem? (i := 212) rfl)) rfl
theorem kcX4_35 : Cond.constant RX4 35 (nI 1000000) ∈ gk_T := kw_775
theorem kw_948 : Cond.constant "AtomTables$Pictures" 63 1000000 ∈ gk_T := gk_in (t4k (List.mem_of_getElem? (i := 145) rfl)) rfl
theorem kcX5_63 : Cond.constant RX5 63 (nI 1000000) ∈ gk_T := kw_948
theorem kw_711 : Cond.constant "AtomTables$Wheels" 33 1000000 ∈ gk_T := gk_in (t3k (List.mem_of_getElem? (i := 148) rfl)) rfl
theorem kcX10_33 : Cond.constant RX10 33 (nI 1000000) ∈ gk_T := kw_711
theorem kw_663 : Cond.constant "java/lang/Integer" 265 1431655765 ∈ gk_T := gk_in (t3k (List.mem_of_getElem? (i := 100) rfl)) rfl
theorem kcJ6_265 : Cond.constant RJ6 265 (nI 1431655765) ∈ gk_T := kw_663
theorem kw_664 : Cond.constant "java/lang/Integer" 266 858993459 ∈ gk_T := gk_in (t3k (List.mem_of_getElem? (i := 101) rfl)) rfl
theorem kcJ6_266 : Cond.constant RJ6 266 (nI 858993459) ∈ gk_T := kw_664
theorem kw_665 : Cond.constant "java/lang/Integer" 267 252645135 ∈ gk_T := gk_in (t3k (List.mem_of_getElem? (i := 102) rfl)) rfl
theorem kcJ6_267 : Cond.constant RJ6 267 (nI 252645135) ∈ gk_T := kw_665
theorem kw_964 : Cond.constantLong "AtomTables" 291 (-9223372036854775808) ∈ gk_T := gk_in (t4k (List.mem_of_getElem? (i := 161) rfl)) rfl
theorem klX11_291 : Cond.constantLong RX11 291 (-9223372036854775808) ∈ gk_T := kw_964
theorem kw_492 : Cond.constantLong "AtomTables$Table" 40 (-1) ∈ gk_T := gk_in (t2k (List.mem_of_getElem? (i := 169) rfl)) rfl
theorem klX8_40 : Cond.constantLong RX8 40 (-1) ∈ gk_T := kw_492
theorem kw_1633 : Cond.constantLong "AtomTablesLaw" 154 4294967295 ∈ gk_T := gk_in (t7k (List.mem_of_getElem? (i := 110) rfl)) rfl
theorem klL_154 : Cond.constantLong "AtomTablesLaw" 154 (lN 4294967295) ∈ gk_T := kw_1633
theorem kw_1248 : Cond.constantLong "AtomTablesModel" 81 4 ∈ gk_T := gk_in (t5k (List.mem_of_getElem? (i := 205) rfl)) rfl
theorem klX12_81 : Cond.constantLong RX12 81 (lN 4) ∈ gk_T := kw_1248
theorem kw_1331 : Cond.constantLong "AtomTablesModel" 123 2 ∈ gk_T := gk_in (t6k (List.mem_of_getElem? (i := 48) rfl)) rfl
theorem klX12_123 : Cond.constantLong RX12 123 (lN 2) ∈ gk_T := kw_1331
theorem kw_1336 : Cond.constantLong "AtomTablesModel" 125 3 ∈ gk_T := gk_in (t6k (List.mem_of_getElem? (i := 53) rfl)) rfl
theorem klX12_125 : Cond.constantLong RX12 125 (lN 3) ∈ gk_T := kw_1336
theorem kw_1567 : Cond.constantLong "AtomTablesModel" 255 (-9223372036854775808) ∈ gk_T := gk_in (t7k (List.mem_of_getElem? (i := 44) rfl)) rfl
theorem klX12_255 : Cond.constantLong RX12 255 (-9223372036854775808) ∈ gk_T := kw_1567
theorem kw_1572 : Cond.constantLong "AtomTablesModel" 257 32 ∈ gk_T := gk_in (t7k (List.mem_of_getElem? (i := 49) rfl)) rfl
theorem klX12_257 : Cond.constantLong RX12 257 (lN 32) ∈ gk_T := kw_1572
theorem kw_1573 : Cond.constantLong "AtomTablesModel" 259 126 ∈ gk_T := gk_in (t7k (List.mem_of_getElem? (i := 50) rfl)) rfl
theorem klX12_259 : Cond.constantLong RX12 259 (lN 126) ∈ gk_T := kw_1573
theorem kw_496 : Cond.constantLong "java/lang/Long" 314 6148914691236517205 ∈ gk_T := gk_in (t2k (List.mem_of_getElem? (i := 173) rfl)) rfl
theorem klJ13_314 : Cond.constantLong RJ13 314 (lN 6148914691236517205) ∈ gk_T := kw_496
theorem kw_497 : Cond.constantLong "java/lang/Long" 316 3689348814741910323 ∈ gk_T := gk_in (t2k (List.mem_of_getElem? (i := 174) rfl)) rfl
theorem klJ13_316 : Cond.constantLong RJ13 316 (lN 3689348814741910323) ∈ gk_T := kw_497
theorem kw_498 : Cond.constantLong "java/lang/Long" 318 1085102592571150095 ∈ gk_T := gk_in (t2k (List.mem_of_getElem? (i := 175) rfl)) rfl
theorem klJ13_318 : Cond.constantLong RJ13 318 (lN 1085102592571150095) ∈ gk_T := kw_498
theorem kw_588 : Cond.static yJ9_max_7cf53 ∈ gk_T := gk_in (t3k (List.mem_of_getElem? (i := 25) rfl)) rfl
theorem kw_98 : Cond.initialized "java/lang/Math" ∈ gk_T := gk_in (t1k (List.mem_of_getElem? (i := 15) rfl)) rfl
theorem kw_589 : Cond.code yJ9_max_7cf53 prog_17_method_65_code 2 (some .int) ∈ gk_T := gk_in (t3k (List.mem_of_getElem? (i := 26) rfl)) rfl
