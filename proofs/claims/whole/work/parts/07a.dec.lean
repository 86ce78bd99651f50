theorem dJ0_charAt_5068e_0 : decode cJ0_charAt_5068e 0 = .ok (.aload_n 0, 1) := by decide +kernel
theorem dJ0_charAt_5068e_1 : decode cJ0_charAt_5068e 1 = .ok (.invokevirtual 492, 3) := by decide +kernel
theorem dJ0_charAt_5068e_4 : decode cJ0_charAt_5068e 4 = .ok (.ifCond .eq 12, 3) := by decide +kernel
theorem dJ0_charAt_5068e_7 : decode cJ0_charAt_5068e 7 = .ok (.aload_n 0, 1) := by decide +kernel
theorem dJ0_charAt_5068e_8 : decode cJ0_charAt_5068e 8 = .ok (.getfield 9, 3) := by decide +kernel
theorem dJ0_charAt_5068e_11 : decode cJ0_charAt_5068e 11 = .ok (.iload_n 1, 1) := by decide +kernel
theorem dJ0_charAt_5068e_12 : decode cJ0_charAt_5068e 12 = .ok (.invokestatic 495, 3) := by decide +kernel
theorem dJ0_charAt_5068e_15 : decode cJ0_charAt_5068e 15 = .ok (.ireturn, 1) := by decide +kernel
theorem dJ0_charAt_5068e_16 : decode cJ0_charAt_5068e 16 = .ok (.aload_n 0, 1) := by decide +kernel
theorem dJ0_charAt_5068e_17 : decode cJ0_charAt_5068e 17 = .ok (.getfield 9, 3) := by decide +kernel
theorem dJ0_charAt_5068e_20 : decode cJ0_charAt_5068e 20 = .ok (.iload_n 1, 1) := by decide +kernel
theorem dJ0_charAt_5068e_21 : decode cJ0_charAt_5068e 21 = .ok (.invokestatic 498, 3) := by decide +kernel
theorem dJ0_charAt_5068e_24 : decode cJ0_charAt_5068e 24 = .ok (.ireturn, 1) := by decide +kernel
theorem dJ0_checkIndex_df160_0 : decode cJ0_checkIndex_df160 0 = .ok (.iload_n 0, 1) := by decide +kernel
theorem dJ0_checkIndex_df160_1 : decode cJ0_checkIndex_df160 1 = .ok (.iload_n 1, 1) := by decide +kernel
theorem dJ0_checkIndex_df160_2 : decode cJ0_checkIndex_df160 2 = .ok (.getstatic 1053, 3) := by decide +kernel
theorem dJ0_checkIndex_df160_5 : decode cJ0_checkIndex_df160 5 = .ok (.invokestatic 1059, 3) := by decide +kernel
theorem dJ0_checkIndex_df160_8 : decode cJ0_checkIndex_df160 8 = .ok (.pop, 1) := by decide +kernel
theorem dJ0_checkIndex_df160_9 : decode cJ0_checkIndex_df160 9 = .ok (.return_, 1) := by decide +kernel
theorem dJ0_coder_7d493_0 : decode cJ0_coder_7d493 0 = .ok (.getstatic 38, 3) := by decide +kernel
theorem dJ0_coder_7d493_3 : decode cJ0_coder_7d493 3 = .ok (.ifCond .eq 10, 3) := by decide +kernel
theorem dJ0_coder_7d493_6 : decode cJ0_coder_7d493 6 = .ok (.aload_n 0, 1) := by decide +kernel
theorem dJ0_coder_7d493_7 : decode cJ0_coder_7d493 7 = .ok (.getfield 15, 3) := by decide +kernel
theorem dJ0_coder_7d493_10 : decode cJ0_coder_7d493 10 = .ok (.goto 4, 3) := by decide +kernel
theorem dJ0_coder_7d493_13 : decode cJ0_coder_7d493 13 = .ok (.iconst 1, 1) := by decide +kernel
theorem dJ0_coder_7d493_14 : decode cJ0_coder_7d493 14 = .ok (.ireturn, 1) := by decide +kernel
theorem dJ0_isLatin1_aae02_0 : decode cJ0_isLatin1_aae02 0 = .ok (.getstatic 38, 3) := by decide +kernel
theorem dJ0_isLatin1_aae02_3 : decode cJ0_isLatin1_aae02 3 = .ok (.ifCond .eq 14, 3) := by decide +kernel
theorem dJ0_isLatin1_aae02_6 : decode cJ0_isLatin1_aae02 6 = .ok (.aload_n 0, 1) := by decide +kernel
theorem dJ0_isLatin1_aae02_7 : decode cJ0_isLatin1_aae02 7 = .ok (.getfield 15, 3) := by decide +kernel
theorem dJ0_isLatin1_aae02_10 : decode cJ0_isLatin1_aae02 10 = .ok (.ifCond .ne 7, 3) := by decide +kernel
theorem dJ0_isLatin1_aae02_13 : decode cJ0_isLatin1_aae02 13 = .ok (.iconst 1, 1) := by decide +kernel
theorem dJ0_isLatin1_aae02_14 : decode cJ0_isLatin1_aae02 14 = .ok (.goto 4, 3) := by decide +kernel
theorem dJ0_isLatin1_aae02_17 : decode cJ0_isLatin1_aae02 17 = .ok (.iconst 0, 1) := by decide +kernel
theorem dJ0_isLatin1_aae02_18 : decode cJ0_isLatin1_aae02 18 = .ok (.ireturn, 1) := by decide +kernel
theorem dJ0_length_8abf5_0 : decode cJ0_length_8abf5 0 = .ok (.aload_n 0, 1) := by decide +kernel
theorem dJ0_length_8abf5_1 : decode cJ0_length_8abf5 1 = .ok (.getfield 9, 3) := by decide +kernel
theorem dJ0_length_8abf5_4 : decode cJ0_length_8abf5 4 = .ok (.arraylength, 1) := by decide +kernel
theorem dJ0_length_8abf5_5 : decode cJ0_length_8abf5 5 = .ok (.aload_n 0, 1) := by decide +kernel
theorem dJ0_length_8abf5_6 : decode cJ0_length_8abf5 6 = .ok (.invokevirtual 335, 3) := by decide +kernel
theorem dJ0_length_8abf5_9 : decode cJ0_length_8abf5 9 = .ok (.ishr, 1) := by decide +kernel
theorem dJ0_length_8abf5_10 : decode cJ0_length_8abf5 10 = .ok (.ireturn, 1) := by decide +kernel
theorem dJ1_charAt_3b067_0 : decode cJ1_charAt_3b067 0 = .ok (.iload_n 1, 1) := by decide +kernel
theorem dJ1_charAt_3b067_1 : decode cJ1_charAt_3b067 1 = .ok (.aload_n 0, 1) := by decide +kernel
theorem dJ1_charAt_3b067_2 : decode cJ1_charAt_3b067 2 = .ok (.arraylength, 1) := by decide +kernel
theorem dJ1_charAt_3b067_3 : decode cJ1_charAt_3b067 3 = .ok (.invokestatic 9, 3) := by decide +kernel
theorem dJ1_charAt_3b067_6 : decode cJ1_charAt_3b067 6 = .ok (.aload_n 0, 1) := by decide +kernel
theorem dJ1_charAt_3b067_7 : decode cJ1_charAt_3b067 7 = .ok (.iload_n 1, 1) := by decide +kernel
theorem dJ1_charAt_3b067_8 : decode cJ1_charAt_3b067 8 = .ok (.baload, 1) := by decide +kernel
theorem dJ1_charAt_3b067_9 : decode cJ1_charAt_3b067 9 = .ok (.sipush 255, 3) := by decide +kernel
theorem dJ1_charAt_3b067_12 : decode cJ1_charAt_3b067 12 = .ok (.iand, 1) := by decide +kernel
theorem dJ1_charAt_3b067_13 : decode cJ1_charAt_3b067 13 = .ok (.i2c, 1) := by decide +kernel
theorem dJ1_charAt_3b067_14 : decode cJ1_charAt_3b067 14 = .ok (.ireturn, 1) := by decide +kernel
theorem dJ13_bitCount_95d88_0 : decode cJ13_bitCount_95d88 0 = .ok (.lload_n 0, 1) := by decide +kernel
theorem dJ13_bitCount_95d88_1 : decode cJ13_bitCount_95d88 1 = .ok (.lload_n 0, 1) := by decide +kernel
theorem dJ13_bitCount_95d88_2 : decode cJ13_bitCount_95d88 2 = .ok (.iconst 1, 1) := by decide +kernel
theorem dJ13_bitCount_95d88_3 : decode cJ13_bitCount_95d88 3 = .ok (.lushr, 1) := by decide +kernel
theorem dJ13_bitCount_95d88_4 : decode cJ13_bitCount_95d88 4 = .ok (.ldc2_w 314, 3) := by decide +kernel
theorem dJ13_bitCount_95d88_7 : decode cJ13_bitCount_95d88 7 = .ok (.land, 1) := by decide +kernel
theorem dJ13_bitCount_95d88_8 : decode cJ13_bitCount_95d88 8 = .ok (.lsub, 1) := by decide +kernel
theorem dJ13_bitCount_95d88_9 : decode cJ13_bitCount_95d88 9 = .ok (.lstore_n 0, 1) := by decide +kernel
theorem dJ13_bitCount_95d88_10 : decode cJ13_bitCount_95d88 10 = .ok (.lload_n 0, 1) := by decide +kernel
theorem dJ13_bitCount_95d88_11 : decode cJ13_bitCount_95d88 11 = .ok (.ldc2_w 316, 3) := by decide +kernel
theorem dJ13_bitCount_95d88_14 : decode cJ13_bitCount_95d88 14 = .ok (.land, 1) := by decide +kernel
theorem dJ13_bitCount_95d88_15 : decode cJ13_bitCount_95d88 15 = .ok (.lload_n 0, 1) := by decide +kernel
theorem dJ13_bitCount_95d88_16 : decode cJ13_bitCount_95d88 16 = .ok (.iconst 2, 1) := by decide +kernel
theorem dJ13_bitCount_95d88_17 : decode cJ13_bitCount_95d88 17 = .ok (.lushr, 1) := by decide +kernel
theorem dJ13_bitCount_95d88_18 : decode cJ13_bitCount_95d88 18 = .ok (.ldc2_w 316, 3) := by decide +kernel
theorem dJ13_bitCount_95d88_21 : decode cJ13_bitCount_95d88 21 = .ok (.land, 1) := by decide +kernel
theorem dJ13_bitCount_95d88_22 : decode cJ13_bitCount_95d88 22 = .ok (.ladd, 1) := by decide +kernel
theorem dJ13_bitCount_95d88_23 : decode cJ13_bitCount_95d88 23 = .ok (.lstore_n 0, 1) := by decide +kernel
theorem dJ13_bitCount_95d88_24 : decode cJ13_bitCount_95d88 24 = .ok (.lload_n 0, 1) := by decide +kernel
theorem dJ13_bitCount_95d88_25 : decode cJ13_bitCount_95d88 25 = .ok (.lload_n 0, 1) := by decide +kernel
theorem dJ13_bitCount_95d88_26 : decode cJ13_bitCount_95d88 26 = .ok (.iconst 4, 1) := by decide +kernel
theorem dJ13_bitCount_95d88_27 : decode cJ13_bitCount_95d88 27 = .ok (.lushr, 1) := by decide +kernel
theorem dJ13_bitCount_95d88_28 : decode cJ13_bitCount_95d88 28 = .ok (.ladd, 1) := by decide +kernel
theorem dJ13_bitCount_95d88_29 : decode cJ13_bitCount_95d88 29 = .ok (.ldc2_w 318, 3) := by decide +kernel
theorem dJ13_bitCount_95d88_32 : decode cJ13_bitCount_95d88 32 = .ok (.land, 1) := by decide +kernel
theorem dJ13_bitCount_95d88_33 : decode cJ13_bitCount_95d88 33 = .ok (.lstore_n 0, 1) := by decide +kernel
theorem dJ13_bitCount_95d88_34 : decode cJ13_bitCount_95d88 34 = .ok (.lload_n 0, 1) := by decide +kernel
theorem dJ13_bitCount_95d88_35 : decode cJ13_bitCount_95d88 35 = .ok (.lload_n 0, 1) := by decide +kernel
theorem dJ13_bitCount_95d88_36 : decode cJ13_bitCount_95d88 36 = .ok (.bipush 8, 2) := by decide +kernel
theorem dJ13_bitCount_95d88_38 : decode cJ13_bitCount_95d88 38 = .ok (.lushr, 1) := by decide +kernel
theorem dJ13_bitCount_95d88_39 : decode cJ13_bitCount_95d88 39 = .ok (.ladd, 1) := by decide +kernel
theorem dJ13_bitCount_95d88_40 : decode cJ13_bitCount_95d88 40 = .ok (.lstore_n 0, 1) := by decide +kernel
theorem dJ13_bitCount_95d88_41 : decode cJ13_bitCount_95d88 41 = .ok (.lload_n 0, 1) := by decide +kernel
theorem dJ13_bitCount_95d88_42 : decode cJ13_bitCount_95d88 42 = .ok (.lload_n 0, 1) := by decide +kernel
theorem dJ13_bitCount_95d88_43 : decode cJ13_bitCount_95d88 43 = .ok (.bipush 16, 2) := by decide +kernel
theorem dJ13_bitCount_95d88_45 : decode cJ13_bitCount_95d88 45 = .ok (.lushr, 1) := by decide +kernel
theorem dJ13_bitCount_95d88_46 : decode cJ13_bitCount_95d88 46 = .ok (.ladd, 1) := by decide +kernel
theorem dJ13_bitCount_95d88_47 : decode cJ13_bitCount_95d88 47 = .ok (.lstore_n 0, 1) := by decide +kernel
theorem dJ13_bitCount_95d88_48 : decode cJ13_bitCount_95d88 48 = .ok (.lload_n 0, 1) := by decide +kernel
theorem dJ13_bitCount_95d88_49 : decode cJ13_bitCount_95d88 49 = .ok (.lload_n 0, 1) := by decide +kernel
theorem dJ13_bitCount_95d88_50 : decode cJ13_bitCount_95d88 50 = .ok (.bipush 32, 2) := by decide +kernel
theorem dJ13_bitCount_95d88_52 : decode cJ13_bitCount_95d88 52 = .ok (.lushr, 1) := by decide +kernel
theorem dJ13_bitCount_95d88_53 : decode cJ13_bitCount_95d88 53 = .ok (.ladd, 1) := by decide +kernel
theorem dJ13_bitCount_95d88_54 : decode cJ13_bitCount_95d88 54 = .ok (.lstore_n 0, 1) := by decide +kernel
theorem dJ13_bitCount_95d88_55 : decode cJ13_bitCount_95d88 55 = .ok (.lload_n 0, 1) := by decide +kernel
theorem dJ13_bitCount_95d88_56 : decode cJ13_bitCount_95d88 56 = .ok (.l2i, 1) := by decide +kernel
theorem dJ13_bitCount_95d88_57 : decode cJ13_bitCount_95d88 57 = .ok (.bipush 127, 2) := by decide +kernel
theorem dJ13_bitCount_95d88_59 : decode cJ13_bitCount_95d88 59 = .ok (.iand, 1) := by decide +kernel
theorem dJ13_bitCount_95d88_60 : decode cJ13_bitCount_95d88 60 = .ok (.ireturn, 1) := by decide +kernel
theorem dJ2_charAt_3b067_0 : decode cJ2_charAt_3b067 0 = .ok (.iload_n 1, 1) := by decide +kernel
theorem dJ2_charAt_3b067_1 : decode cJ2_charAt_3b067 1 = .ok (.aload_n 0, 1) := by decide +kernel
theorem dJ2_charAt_3b067_2 : decode cJ2_charAt_3b067 2 = .ok (.invokestatic 67, 3) := by decide +kernel
theorem dJ2_charAt_3b067_5 : decode cJ2_charAt_3b067 5 = .ok (.aload_n 0, 1) := by decide +kernel
theorem dJ2_charAt_3b067_6 : decode cJ2_charAt_3b067 6 = .ok (.iload_n 1, 1) := by decide +kernel
theorem dJ2_charAt_3b067_7 : decode cJ2_charAt_3b067 7 = .ok (.invokestatic 71, 3) := by decide +kernel
theorem dJ2_charAt_3b067_10 : decode cJ2_charAt_3b067 10 = .ok (.ireturn, 1) := by decide +kernel
theorem dJ2_checkIndex_2214a_0 : decode cJ2_checkIndex_2214a 0 = .ok (.iload_n 0, 1) := by decide +kernel
theorem dJ2_checkIndex_2214a_1 : decode cJ2_checkIndex_2214a 1 = .ok (.aload_n 1, 1) := by decide +kernel
theorem dJ2_checkIndex_2214a_2 : decode cJ2_checkIndex_2214a 2 = .ok (.invokestatic 48, 3) := by decide +kernel
theorem dJ2_checkIndex_2214a_5 : decode cJ2_checkIndex_2214a 5 = .ok (.invokestatic 414, 3) := by decide +kernel
theorem dJ2_checkIndex_2214a_8 : decode cJ2_checkIndex_2214a 8 = .ok (.return_, 1) := by decide +kernel
theorem dJ2_getChar_3b067_0 : decode cJ2_getChar_3b067 0 = .ok (.getstatic 44, 3) := by decide +kernel
theorem dJ2_getChar_3b067_3 : decode cJ2_getChar_3b067 3 = .ok (.ifCond .ne 25, 3) := by decide +kernel
theorem dJ2_getChar_3b067_6 : decode cJ2_getChar_3b067 6 = .ok (.iload_n 1, 1) := by decide +kernel
theorem dJ2_getChar_3b067_7 : decode cJ2_getChar_3b067 7 = .ok (.ifCond .lt 11, 3) := by decide +kernel
theorem dJ2_getChar_3b067_10 : decode cJ2_getChar_3b067 10 = .ok (.iload_n 1, 1) := by decide +kernel
theorem dJ2_getChar_3b067_11 : decode cJ2_getChar_3b067 11 = .ok (.aload_n 0, 1) := by decide +kernel
theorem dJ2_getChar_3b067_12 : decode cJ2_getChar_3b067 12 = .ok (.invokestatic 48, 3) := by decide +kernel
theorem dJ2_getChar_3b067_15 : decode cJ2_getChar_3b067 15 = .ok (.if_icmp .lt 13, 3) := by decide +kernel
theorem dJ2_getChar_3b067_18 : decode cJ2_getChar_3b067 18 = .ok (.new 52, 3) := by decide +kernel
theorem dJ2_getChar_3b067_21 : decode cJ2_getChar_3b067 21 = .ok (.dup, 1) := by decide +kernel
theorem dJ2_getChar_3b067_22 : decode cJ2_getChar_3b067 22 = .ok (.ldc 54, 2) := by decide +kernel
theorem dJ2_getChar_3b067_24 : decode cJ2_getChar_3b067 24 = .ok (.invokespecial 56, 3) := by decide +kernel
theorem dJ2_getChar_3b067_27 : decode cJ2_getChar_3b067 27 = .ok (.athrow, 1) := by decide +kernel
theorem dJ2_getChar_3b067_28 : decode cJ2_getChar_3b067 28 = .ok (.iload_n 1, 1) := by decide +kernel
theorem dJ2_getChar_3b067_29 : decode cJ2_getChar_3b067 29 = .ok (.iconst 1, 1) := by decide +kernel
theorem dJ2_getChar_3b067_30 : decode cJ2_getChar_3b067 30 = .ok (.ishl, 1) := by decide +kernel
theorem dJ2_getChar_3b067_31 : decode cJ2_getChar_3b067 31 = .ok (.istore_n 1, 1) := by decide +kernel
theorem dJ2_getChar_3b067_32 : decode cJ2_getChar_3b067 32 = .ok (.aload_n 0, 1) := by decide +kernel
theorem dJ2_getChar_3b067_33 : decode cJ2_getChar_3b067 33 = .ok (.iload_n 1, 1) := by decide +kernel
theorem dJ2_getChar_3b067_34 : decode cJ2_getChar_3b067 34 = .ok (.iinc 1 1, 3) := by decide +kernel
theorem dJ2_getChar_3b067_37 : decode cJ2_getChar_3b067 37 = .ok (.baload, 1) := by decide +kernel
theorem dJ2_getChar_3b067_38 : decode cJ2_getChar_3b067 38 = .ok (.sipush 255, 3) := by decide +kernel
theorem dJ2_getChar_3b067_41 : decode cJ2_getChar_3b067 41 = .ok (.iand, 1) := by decide +kernel
theorem dJ2_getChar_3b067_42 : decode cJ2_getChar_3b067 42 = .ok (.getstatic 59, 3) := by decide +kernel
theorem dJ2_getChar_3b067_45 : decode cJ2_getChar_3b067 45 = .ok (.ishl, 1) := by decide +kernel
theorem dJ2_getChar_3b067_46 : decode cJ2_getChar_3b067 46 = .ok (.aload_n 0, 1) := by decide +kernel
theorem dJ2_getChar_3b067_47 : decode cJ2_getChar_3b067 47 = .ok (.iload_n 1, 1) := by decide +kernel
theorem dJ2_getChar_3b067_48 : decode cJ2_getChar_3b067 48 = .ok (.baload, 1) := by decide +kernel
theorem dJ2_getChar_3b067_49 : decode cJ2_getChar_3b067 49 = .ok (.sipush 255, 3) := by decide +kernel
theorem dJ2_getChar_3b067_52 : decode cJ2_getChar_3b067 52 = .ok (.iand, 1) := by decide +kernel
theorem dJ2_getChar_3b067_53 : decode cJ2_getChar_3b067 53 = .ok (.getstatic 63, 3) := by decide +kernel
theorem dJ2_getChar_3b067_56 : decode cJ2_getChar_3b067 56 = .ok (.ishl, 1) := by decide +kernel
theorem dJ2_getChar_3b067_57 : decode cJ2_getChar_3b067 57 = .ok (.ior, 1) := by decide +kernel
theorem dJ2_getChar_3b067_58 : decode cJ2_getChar_3b067 58 = .ok (.i2c, 1) := by decide +kernel
theorem dJ2_getChar_3b067_59 : decode cJ2_getChar_3b067 59 = .ok (.ireturn, 1) := by decide +kernel
theorem dJ2_length_9d52b_0 : decode cJ2_length_9d52b 0 = .ok (.aload_n 0, 1) := by decide +kernel
theorem dJ2_length_9d52b_1 : decode cJ2_length_9d52b 1 = .ok (.arraylength, 1) := by decide +kernel
theorem dJ2_length_9d52b_2 : decode cJ2_length_9d52b 2 = .ok (.iconst 1, 1) := by decide +kernel
theorem dJ2_length_9d52b_3 : decode cJ2_length_9d52b 3 = .ok (.ishr, 1) := by decide +kernel
theorem dJ2_length_9d52b_4 : decode cJ2_length_9d52b 4 = .ok (.ireturn, 1) := by decide +kernel
theorem dJ3_checkIndex_8e157_0 : decode cJ3_checkIndex_8e157 0 = .ok (.iload_n 0, 1) := by decide +kernel
theorem dJ3_checkIndex_8e157_1 : decode cJ3_checkIndex_8e157 1 = .ok (.ifCond .lt 8, 3) := by decide +kernel
theorem dJ3_checkIndex_8e157_4 : decode cJ3_checkIndex_8e157 4 = .ok (.iload_n 0, 1) := by decide +kernel
theorem dJ3_checkIndex_8e157_5 : decode cJ3_checkIndex_8e157 5 = .ok (.iload_n 1, 1) := by decide +kernel
theorem dJ3_checkIndex_8e157_6 : decode cJ3_checkIndex_8e157 6 = .ok (.if_icmp .lt 10, 3) := by decide +kernel
theorem dJ3_checkIndex_8e157_9 : decode cJ3_checkIndex_8e157 9 = .ok (.aload_n 2, 1) := by decide +kernel
theorem dJ3_checkIndex_8e157_10 : decode cJ3_checkIndex_8e157 10 = .ok (.iload_n 0, 1) := by decide +kernel
theorem dJ3_checkIndex_8e157_11 : decode cJ3_checkIndex_8e157 11 = .ok (.iload_n 1, 1) := by decide +kernel
theorem dJ3_checkIndex_8e157_12 : decode cJ3_checkIndex_8e157 12 = .ok (.invokestatic 95, 3) := by decide +kernel
theorem dJ3_checkIndex_8e157_15 : decode cJ3_checkIndex_8e157 15 = .ok (.athrow, 1) := by decide +kernel
theorem dJ3_checkIndex_8e157_16 : decode cJ3_checkIndex_8e157 16 = .ok (.iload_n 0, 1) := by decide +kernel
theorem dJ3_checkIndex_8e157_17 : decode cJ3_checkIndex_8e157 17 = .ok (.ireturn, 1) := by decide +kernel
theorem dJ6_bitCount_0f7a4_0 : decode cJ6_bitCount_0f7a4 0 = .ok (.iload_n 0, 1) := by decide +kernel
theorem dJ6_bitCount_0f7a4_1 : decode cJ6_bitCount_0f7a4 1 = .ok (.iload_n 0, 1) := by decide +kernel
theorem dJ6_bitCount_0f7a4_2 : decode cJ6_bitCount_0f7a4 2 = .ok (.iconst 1, 1) := by decide +kernel
theorem dJ6_bitCount_0f7a4_3 : decode cJ6_bitCount_0f7a4 3 = .ok (.iushr, 1) := by decide +kernel
theorem dJ6_bitCount_0f7a4_4 : decode cJ6_bitCount_0f7a4 4 = .ok (.ldc_w 265, 3) := by decide +kernel
theorem dJ6_bitCount_0f7a4_7 : decode cJ6_bitCount_0f7a4 7 = .ok (.iand, 1) := by decide +kernel
theorem dJ6_bitCount_0f7a4_8 : decode cJ6_bitCount_0f7a4 8 = .ok (.isub, 1) := by decide +kernel
theorem dJ6_bitCount_0f7a4_9 : decode cJ6_bitCount_0f7a4 9 = .ok (.istore_n 0, 1) := by decide +kernel
theorem dJ6_bitCount_0f7a4_10 : decode cJ6_bitCount_0f7a4 10 = .ok (.iload_n 0, 1) := by decide +kernel
theorem dJ6_bitCount_0f7a4_11 : decode cJ6_bitCount_0f7a4 11 = .ok (.ldc_w 266, 3) := by decide +kernel
theorem dJ6_bitCount_0f7a4_14 : decode cJ6_bitCount_0f7a4 14 = .ok (.iand, 1) := by decide +kernel
theorem dJ6_bitCount_0f7a4_15 : decode cJ6_bitCount_0f7a4 15 = .ok (.iload_n 0, 1) := by decide +kernel
theorem dJ6_bitCount_0f7a4_16 : decode cJ6_bitCount_0f7a4 16 = .ok (.iconst 2, 1) := by decide +kernel
theorem dJ6_bitCount_0f7a4_17 : decode cJ6_bitCount_0f7a4 17 = .ok (.iushr, 1) := by decide +kernel
theorem dJ6_bitCount_0f7a4_18 : decode cJ6_bitCount_0f7a4 18 = .ok (.ldc_w 266, 3) := by decide +kernel
theorem dJ6_bitCount_0f7a4_21 : decode cJ6_bitCount_0f7a4 21 = .ok (.iand, 1) := by decide +kernel
theorem dJ6_bitCount_0f7a4_22 : decode cJ6_bitCount_0f7a4 22 = .ok (.iadd, 1) := by decide +kernel
theorem dJ6_bitCount_0f7a4_23 : decode cJ6_bitCount_0f7a4 23 = .ok (.istore_n 0, 1) := by decide +kernel
theorem dJ6_bitCount_0f7a4_24 : decode cJ6_bitCount_0f7a4 24 = .ok (.iload_n 0, 1) := by decide +kernel
theorem dJ6_bitCount_0f7a4_25 : decode cJ6_bitCount_0f7a4 25 = .ok (.iload_n 0, 1) := by decide +kernel
theorem dJ6_bitCount_0f7a4_26 : decode cJ6_bitCount_0f7a4 26 = .ok (.iconst 4, 1) := by decide +kernel
theorem dJ6_bitCount_0f7a4_27 : decode cJ6_bitCount_0f7a4 27 = .ok (.iushr, 1) := by decide +kernel
theorem dJ6_bitCount_0f7a4_28 : decode cJ6_bitCount_0f7a4 28 = .ok (.iadd, 1) := by decide +kernel
theorem dJ6_bitCount_0f7a4_29 : decode cJ6_bitCount_0f7a4 29 = .ok (.ldc_w 267, 3) := by decide +kernel
theorem dJ6_bitCount_0f7a4_32 : decode cJ6_bitCount_0f7a4 32 = .ok (.iand, 1) := by decide +kernel
theorem dJ6_bitCount_0f7a4_33 : decode cJ6_bitCount_0f7a4 33 = .ok (.istore_n 0, 1) := by decide +kernel
theorem dJ6_bitCount_0f7a4_34 : decode cJ6_bitCount_0f7a4 34 = .ok (.iload_n 0, 1) := by decide +kernel
theorem dJ6_bitCount_0f7a4_35 : decode cJ6_bitCount_0f7a4 35 = .ok (.iload_n 0, 1) := by decide +kernel
theorem dJ6_bitCount_0f7a4_36 : decode cJ6_bitCount_0f7a4 36 = .ok (.bipush 8, 2) := by decide +kernel
theorem dJ6_bitCount_0f7a4_38 : decode cJ6_bitCount_0f7a4 38 = .ok (.iushr, 1) := by decide +kernel
theorem dJ6_bitCount_0f7a4_39 : decode cJ6_bitCount_0f7a4 39 = .ok (.iadd, 1) := by decide +kernel
theorem dJ6_bitCount_0f7a4_40 : decode cJ6_bitCount_0f7a4 40 = .ok (.istore_n 0, 1) := by decide +kernel
theorem dJ6_bitCount_0f7a4_41 : decode cJ6_bitCount_0f7a4 41 = .ok (.iload_n 0, 1) := by decide +kernel
theorem dJ6_bitCount_0f7a4_42 : decode cJ6_bitCount_0f7a4 42 = .ok (.iload_n 0, 1) := by decide +kernel
theorem dJ6_bitCount_0f7a4_43 : decode cJ6_bitCount_0f7a4 43 = .ok (.bipush 16, 2) := by decide +kernel
theorem dJ6_bitCount_0f7a4_45 : decode cJ6_bitCount_0f7a4 45 = .ok (.iushr, 1) := by decide +kernel
theorem dJ6_bitCount_0f7a4_46 : decode cJ6_bitCount_0f7a4 46 = .ok (.iadd, 1) := by decide +kernel
theorem dJ6_bitCount_0f7a4_47 : decode cJ6_bitCount_0f7a4 47 = .ok (.istore_n 0, 1) := by decide +kernel
theorem dJ6_bitCount_0f7a4_48 : decode cJ6_bitCount_0f7a4 48 = .ok (.iload_n 0, 1) := by decide +kernel
theorem dJ6_bitCount_0f7a4_49 : decode cJ6_bitCount_0f7a4 49 = .ok (.bipush 63, 2) := by decide +kernel
theorem dJ6_bitCount_0f7a4_51 : decode cJ6_bitCount_0f7a4 51 = .ok (.iand, 1) := by decide +kernel
theorem dJ6_bitCount_0f7a4_52 : decode cJ6_bitCount_0f7a4 52 = .ok (.ireturn, 1) := by decide +kernel
theorem dJ9_max_7cf53_0 : decode cJ9_max_7cf53 0 = .ok (.iload_n 0, 1) := by decide +kernel
theorem dJ9_max_7cf53_1 : decode cJ9_max_7cf53 1 = .ok (.iload_n 1, 1) := by decide +kernel
theorem dJ9_max_7cf53_2 : decode cJ9_max_7cf53 2 = .ok (.if_icmp .lt 7, 3) := by decide +kernel
theorem dJ9_max_7cf53_5 : decode cJ9_max_7cf53 5 = .ok (.iload_n 0, 1) := by decide +kernel
theorem dJ9_max_7cf53_6 : decode cJ9_max_7cf53 6 = .ok (.goto 4, 3) := by decide +kernel
theorem dJ9_max_7cf53_9 : decode cJ9_max_7cf53 9 = .ok (.iload_n 1, 1) := by decide +kernel
theorem dJ9_max_7cf53_10 : decode cJ9_max_7cf53 10 = .ok (.ireturn, 1) := by decide +kernel
theorem dL_law_0 : decode code 0 = .ok (.new 7, 3) := by decide +kernel
theorem dL_law_3 : decode code 3 = .ok (.dup, 1) := by decide +kernel
theorem dL_law_4 : decode code 4 = .ok (.invokespecial 9, 3) := by decide +kernel
theorem dL_law_7 : decode code 7 = .ok (.astore_n 1, 1) := by decide +kernel
theorem dL_law_8 : decode code 8 = .ok (.new 10, 3) := by decide +kernel
theorem dL_law_11 : decode code 11 = .ok (.dup, 1) := by decide +kernel
theorem dL_law_12 : decode code 12 = .ok (.invokespecial 12, 3) := by decide +kernel
theorem dL_law_15 : decode code 15 = .ok (.astore_n 2, 1) := by decide +kernel
theorem dL_law_16 : decode code 16 = .ok (.iconst 0, 1) := by decide +kernel
theorem dL_law_17 : decode code 17 = .ok (.istore_n 3, 1) := by decide +kernel
theorem dL_law_18 : decode code 18 = .ok (.iload_n 3, 1) := by decide +kernel
theorem dL_law_19 : decode code 19 = .ok (.aload_n 0, 1) := by decide +kernel
theorem dL_law_20 : decode code 20 = .ok (.arraylength, 1) := by decide +kernel
theorem dL_law_21 : decode code 21 = .ok (.iconst 5, 1) := by decide +kernel
theorem dL_law_22 : decode code 22 = .ok (.isub, 1) := by decide +kernel
theorem dL_law_23 : decode code 23 = .ok (.if_icmp .gt 1483, 3) := by decide +kernel
theorem dL_law_26 : decode code 26 = .ok (.aload_n 0, 1) := by decide +kernel
theorem dL_law_27 : decode code 27 = .ok (.iload_n 3, 1) := by decide +kernel
theorem dL_law_28 : decode code 28 = .ok (.iaload, 1) := by decide +kernel
theorem dL_law_29 : decode code 29 = .ok (.bipush 63, 2) := by decide +kernel
theorem dL_law_31 : decode code 31 = .ok (.iand, 1) := by decide +kernel
theorem dL_law_32 : decode code 32 = .ok (.tableswitch 1468 0 42 #[188, 211, 244, 267, 320, 363, 396, 439, 472, 495, 548, 571, 594, 627, 650, 693, 746, 779, 802, 835, 878, 921, 944, 977, 1010, 1033, 1056, 1079, 1102, 1115, 1138, 1161, 1184, 1207, 1240, 1313, 1347, 1370, 1383, 1396, 1419, 1432, 1445], 188) := by decide +kernel
theorem dL_law_220 : decode code 220 = .ok (.aload_n 1, 1) := by decide +kernel
theorem dL_law_221 : decode code 221 = .ok (.aload_n 0, 1) := by decide +kernel
theorem dL_law_222 : decode code 222 = .ok (.iload_n 3, 1) := by decide +kernel
theorem dL_law_223 : decode code 223 = .ok (.iconst 1, 1) := by decide +kernel
theorem dL_law_224 : decode code 224 = .ok (.iadd, 1) := by decide +kernel
theorem dL_law_225 : decode code 225 = .ok (.iaload, 1) := by decide +kernel
theorem dL_law_226 : decode code 226 = .ok (.invokevirtual 13, 3) := by decide +kernel
theorem dL_law_229 : decode code 229 = .ok (.aload_n 2, 1) := by decide +kernel
theorem dL_law_230 : decode code 230 = .ok (.aload_n 0, 1) := by decide +kernel
theorem dL_law_231 : decode code 231 = .ok (.iload_n 3, 1) := by decide +kernel
theorem dL_law_232 : decode code 232 = .ok (.iconst 1, 1) := by decide +kernel
theorem dL_law_233 : decode code 233 = .ok (.iadd, 1) := by decide +kernel
theorem dL_law_234 : decode code 234 = .ok (.iaload, 1) := by decide +kernel
theorem dL_law_235 : decode code 235 = .ok (.invokevirtual 17, 3) := by decide +kernel
theorem dL_law_238 : decode code 238 = .ok (.if_icmp .eq 1262, 3) := by decide +kernel
theorem dL_law_241 : decode code 241 = .ok (.iconst 0, 1) := by decide +kernel
theorem dL_law_242 : decode code 242 = .ok (.ireturn, 1) := by decide +kernel
theorem dL_law_243 : decode code 243 = .ok (.aload_n 1, 1) := by decide +kernel
theorem dL_law_244 : decode code 244 = .ok (.aload_n 0, 1) := by decide +kernel
theorem dL_law_245 : decode code 245 = .ok (.iload_n 3, 1) := by decide +kernel
theorem dL_law_246 : decode code 246 = .ok (.iconst 1, 1) := by decide +kernel
theorem dL_law_247 : decode code 247 = .ok (.iadd, 1) := by decide +kernel
theorem dL_law_248 : decode code 248 = .ok (.iaload, 1) := by decide +kernel
theorem dL_law_249 : decode code 249 = .ok (.aload_n 0, 1) := by decide +kernel
theorem dL_law_250 : decode code 250 = .ok (.iload_n 3, 1) := by decide +kernel
theorem dL_law_251 : decode code 251 = .ok (.iconst 2, 1) := by decide +kernel
theorem dL_law_252 : decode code 252 = .ok (.iadd, 1) := by decide +kernel
theorem dL_law_253 : decode code 253 = .ok (.iaload, 1) := by decide +kernel
theorem dL_law_254 : decode code 254 = .ok (.invokevirtual 18, 3) := by decide +kernel
theorem dL_law_257 : decode code 257 = .ok (.aload_n 2, 1) := by decide +kernel
theorem dL_law_258 : decode code 258 = .ok (.aload_n 0, 1) := by decide +kernel
theorem dL_law_259 : decode code 259 = .ok (.iload_n 3, 1) := by decide +kernel
theorem dL_law_260 : decode code 260 = .ok (.iconst 1, 1) := by decide +kernel
theorem dL_law_261 : decode code 261 = .ok (.iadd, 1) := by decide +kernel
theorem dL_law_262 : decode code 262 = .ok (.iaload, 1) := by decide +kernel
theorem dL_law_263 : decode code 263 = .ok (.aload_n 0, 1) := by decide +kernel
theorem dL_law_264 : decode code 264 = .ok (.iload_n 3, 1) := by decide +kernel
theorem dL_law_265 : decode code 265 = .ok (.iconst 2, 1) := by decide +kernel
theorem dL_law_266 : decode code 266 = .ok (.iadd, 1) := by decide +kernel
theorem dL_law_267 : decode code 267 = .ok (.iaload, 1) := by decide +kernel
theorem dL_law_268 : decode code 268 = .ok (.invokevirtual 22, 3) := by decide +kernel
theorem dL_law_271 : decode code 271 = .ok (.if_icmp .eq 1229, 3) := by decide +kernel
theorem dL_law_274 : decode code 274 = .ok (.iconst 0, 1) := by decide +kernel
theorem dL_law_275 : decode code 275 = .ok (.ireturn, 1) := by decide +kernel
theorem dL_law_276 : decode code 276 = .ok (.aload_n 1, 1) := by decide +kernel
theorem dL_law_277 : decode code 277 = .ok (.aload_n 0, 1) := by decide +kernel
theorem dL_law_278 : decode code 278 = .ok (.iload_n 3, 1) := by decide +kernel
theorem dL_law_279 : decode code 279 = .ok (.iconst 1, 1) := by decide +kernel
theorem dL_law_280 : decode code 280 = .ok (.iadd, 1) := by decide +kernel
theorem dL_law_281 : decode code 281 = .ok (.iaload, 1) := by decide +kernel
theorem dL_law_282 : decode code 282 = .ok (.invokevirtual 23, 3) := by decide +kernel
theorem dL_law_285 : decode code 285 = .ok (.aload_n 2, 1) := by decide +kernel
theorem dL_law_286 : decode code 286 = .ok (.aload_n 0, 1) := by decide +kernel
theorem dL_law_287 : decode code 287 = .ok (.iload_n 3, 1) := by decide +kernel
theorem dL_law_288 : decode code 288 = .ok (.iconst 1, 1) := by decide +kernel
theorem dL_law_289 : decode code 289 = .ok (.iadd, 1) := by decide +kernel
theorem dL_law_290 : decode code 290 = .ok (.iaload, 1) := by decide +kernel
theorem dL_law_291 : decode code 291 = .ok (.invokevirtual 26, 3) := by decide +kernel
theorem dL_law_294 : decode code 294 = .ok (.if_icmp .eq 1206, 3) := by decide +kernel
theorem dL_law_297 : decode code 297 = .ok (.iconst 0, 1) := by decide +kernel
theorem dL_law_298 : decode code 298 = .ok (.ireturn, 1) := by decide +kernel
theorem dL_law_299 : decode code 299 = .ok (.aload_n 1, 1) := by decide +kernel
theorem dL_law_300 : decode code 300 = .ok (.aload_n 0, 1) := by decide +kernel
theorem dL_law_301 : decode code 301 = .ok (.iload_n 3, 1) := by decide +kernel
theorem dL_law_302 : decode code 302 = .ok (.iconst 1, 1) := by decide +kernel
theorem dL_law_303 : decode code 303 = .ok (.iadd, 1) := by decide +kernel
theorem dL_law_304 : decode code 304 = .ok (.iaload, 1) := by decide +kernel
theorem dL_law_305 : decode code 305 = .ok (.aload_n 0, 1) := by decide +kernel
theorem dL_law_306 : decode code 306 = .ok (.iload_n 3, 1) := by decide +kernel
theorem dL_law_307 : decode code 307 = .ok (.iconst 2, 1) := by decide +kernel
theorem dL_law_308 : decode code 308 = .ok (.iadd, 1) := by decide +kernel
theorem dL_law_309 : decode code 309 = .ok (.iaload, 1) := by decide +kernel
theorem dL_law_310 : decode code 310 = .ok (.aload_n 0, 1) := by decide +kernel
theorem dL_law_311 : decode code 311 = .ok (.iload_n 3, 1) := by decide +kernel
theorem dL_law_312 : decode code 312 = .ok (.iconst 3, 1) := by decide +kernel
theorem dL_law_313 : decode code 313 = .ok (.iadd, 1) := by decide +kernel
theorem dL_law_314 : decode code 314 = .ok (.iaload, 1) := by decide +kernel
theorem dL_law_315 : decode code 315 = .ok (.aload_n 0, 1) := by decide +kernel
theorem dL_law_316 : decode code 316 = .ok (.iload_n 3, 1) := by decide +kernel
theorem dL_law_317 : decode code 317 = .ok (.iconst 4, 1) := by decide +kernel
theorem dL_law_318 : decode code 318 = .ok (.iadd, 1) := by decide +kernel
theorem dL_law_319 : decode code 319 = .ok (.iaload, 1) := by decide +kernel
theorem dL_law_320 : decode code 320 = .ok (.invokevirtual 27, 3) := by decide +kernel
theorem dL_law_323 : decode code 323 = .ok (.aload_n 2, 1) := by decide +kernel
theorem dL_law_324 : decode code 324 = .ok (.aload_n 0, 1) := by decide +kernel
theorem dL_law_325 : decode code 325 = .ok (.iload_n 3, 1) := by decide +kernel
theorem dL_law_326 : decode code 326 = .ok (.iconst 1, 1) := by decide +kernel
theorem dL_law_327 : decode code 327 = .ok (.iadd, 1) := by decide +kernel
theorem dL_law_328 : decode code 328 = .ok (.iaload, 1) := by decide +kernel
theorem dL_law_329 : decode code 329 = .ok (.aload_n 0, 1) := by decide +kernel
theorem dL_law_330 : decode code 330 = .ok (.iload_n 3, 1) := by decide +kernel
theorem dL_law_331 : decode code 331 = .ok (.iconst 2, 1) := by decide +kernel
theorem dL_law_332 : decode code 332 = .ok (.iadd, 1) := by decide +kernel
theorem dL_law_333 : decode code 333 = .ok (.iaload, 1) := by decide +kernel
theorem dL_law_334 : decode code 334 = .ok (.aload_n 0, 1) := by decide +kernel
theorem dL_law_335 : decode code 335 = .ok (.iload_n 3, 1) := by decide +kernel
theorem dL_law_336 : decode code 336 = .ok (.iconst 3, 1) := by decide +kernel
theorem dL_law_337 : decode code 337 = .ok (.iadd, 1) := by decide +kernel
theorem dL_law_338 : decode code 338 = .ok (.iaload, 1) := by decide +kernel
theorem dL_law_339 : decode code 339 = .ok (.aload_n 0, 1) := by decide +kernel
theorem dL_law_340 : decode code 340 = .ok (.iload_n 3, 1) := by decide +kernel
theorem dL_law_341 : decode code 341 = .ok (.iconst 4, 1) := by decide +kernel
theorem dL_law_342 : decode code 342 = .ok (.iadd, 1) := by decide +kernel
theorem dL_law_343 : decode code 343 = .ok (.iaload, 1) := by decide +kernel
theorem dL_law_344 : decode code 344 = .ok (.invokevirtual 31, 3) := by decide +kernel
theorem dL_law_347 : decode code 347 = .ok (.if_icmp .eq 1153, 3) := by decide +kernel
theorem dL_law_350 : decode code 350 = .ok (.iconst 0, 1) := by decide +kernel
theorem dL_law_351 : decode code 351 = .ok (.ireturn, 1) := by decide +kernel
theorem dL_law_352 : decode code 352 = .ok (.aload_n 1, 1) := by decide +kernel
theorem dL_law_353 : decode code 353 = .ok (.aload_n 0, 1) := by decide +kernel
theorem dL_law_354 : decode code 354 = .ok (.iload_n 3, 1) := by decide +kernel
theorem dL_law_355 : decode code 355 = .ok (.iconst 1, 1) := by decide +kernel
theorem dL_law_356 : decode code 356 = .ok (.iadd, 1) := by decide +kernel
theorem dL_law_357 : decode code 357 = .ok (.iaload, 1) := by decide +kernel
theorem dL_law_358 : decode code 358 = .ok (.aload_n 0, 1) := by decide +kernel
theorem dL_law_359 : decode code 359 = .ok (.iload_n 3, 1) := by decide +kernel
theorem dL_law_360 : decode code 360 = .ok (.iconst 2, 1) := by decide +kernel
theorem dL_law_361 : decode code 361 = .ok (.iadd, 1) := by decide +kernel
theorem dL_law_362 : decode code 362 = .ok (.iaload, 1) := by decide +kernel
theorem dL_law_363 : decode code 363 = .ok (.aload_n 0, 1) := by decide +kernel
theorem dL_law_364 : decode code 364 = .ok (.iload_n 3, 1) := by decide +kernel
theorem dL_law_365 : decode code 365 = .ok (.iconst 3, 1) := by decide +kernel
theorem dL_law_366 : decode code 366 = .ok (.iadd, 1) := by decide +kernel
theorem dL_law_367 : decode code 367 = .ok (.iaload, 1) := by decide +kernel
theorem dL_law_368 : decode code 368 = .ok (.invokevirtual 32, 3) := by decide +kernel
theorem dL_law_371 : decode code 371 = .ok (.aload_n 2, 1) := by decide +kernel
theorem dL_law_372 : decode code 372 = .ok (.aload_n 0, 1) := by decide +kernel
theorem dL_law_373 : decode code 373 = .ok (.iload_n 3, 1) := by decide +kernel
theorem dL_law_374 : decode code 374 = .ok (.iconst 1, 1) := by decide +kernel
theorem dL_law_375 : decode code 375 = .ok (.iadd, 1) := by decide +kernel
theorem dL_law_376 : decode code 376 = .ok (.iaload, 1) := by decide +kernel
theorem dL_law_377 : decode code 377 = .ok (.aload_n 0, 1) := by decide +kernel
theorem dL_law_378 : decode code 378 = .ok (.iload_n 3, 1) := by decide +kernel
theorem dL_law_379 : decode code 379 = .ok (.iconst 2, 1) := by decide +kernel
theorem dL_law_380 : decode code 380 = .ok (.iadd, 1) := by decide +kernel
theorem dL_law_381 : decode code 381 = .ok (.iaload, 1) := by decide +kernel
theorem dL_law_382 : decode code 382 = .ok (.aload_n 0, 1) := by decide +kernel
theorem dL_law_383 : decode code 383 = .ok (.iload_n 3, 1) := by decide +kernel
theorem dL_law_384 : decode code 384 = .ok (.iconst 3, 1) := by decide +kernel
theorem dL_law_385 : decode code 385 = .ok (.iadd, 1) := by decide +kernel
theorem dL_law_386 : decode code 386 = .ok (.iaload, 1) := by decide +kernel
theorem dL_law_387 : decode code 387 = .ok (.invokevirtual 36, 3) := by decide +kernel
theorem dL_law_390 : decode code 390 = .ok (.if_icmp .eq 1110, 3) := by decide +kernel
theorem dL_law_393 : decode code 393 = .ok (.iconst 0, 1) := by decide +kernel
theorem dL_law_394 : decode code 394 = .ok (.ireturn, 1) := by decide +kernel
theorem dL_law_395 : decode code 395 = .ok (.aload_n 1, 1) := by decide +kernel
theorem dL_law_396 : decode code 396 = .ok (.aload_n 0, 1) := by decide +kernel
theorem dL_law_397 : decode code 397 = .ok (.iload_n 3, 1) := by decide +kernel
theorem dL_law_398 : decode code 398 = .ok (.iconst 1, 1) := by decide +kernel
theorem dL_law_399 : decode code 399 = .ok (.iadd, 1) := by decide +kernel
theorem dL_law_400 : decode code 400 = .ok (.iaload, 1) := by decide +kernel
theorem dL_law_401 : decode code 401 = .ok (.aload_n 0, 1) := by decide +kernel
theorem dL_law_402 : decode code 402 = .ok (.iload_n 3, 1) := by decide +kernel
theorem dL_law_403 : decode code 403 = .ok (.iconst 2, 1) := by decide +kernel
theorem dL_law_404 : decode code 404 = .ok (.iadd, 1) := by decide +kernel
theorem dL_law_405 : decode code 405 = .ok (.iaload, 1) := by decide +kernel
theorem dL_law_406 : decode code 406 = .ok (.invokevirtual 37, 3) := by decide +kernel
theorem dL_law_409 : decode code 409 = .ok (.aload_n 2, 1) := by decide +kernel
theorem dL_law_410 : decode code 410 = .ok (.aload_n 0, 1) := by decide +kernel
theorem dL_law_411 : decode code 411 = .ok (.iload_n 3, 1) := by decide +kernel
theorem dL_law_412 : decode code 412 = .ok (.iconst 1, 1) := by decide +kernel
theorem dL_law_413 : decode code 413 = .ok (.iadd, 1) := by decide +kernel
theorem dL_law_414 : decode code 414 = .ok (.iaload, 1) := by decide +kernel
theorem dL_law_415 : decode code 415 = .ok (.aload_n 0, 1) := by decide +kernel
theorem dL_law_416 : decode code 416 = .ok (.iload_n 3, 1) := by decide +kernel
theorem dL_law_417 : decode code 417 = .ok (.iconst 2, 1) := by decide +kernel
theorem dL_law_418 : decode code 418 = .ok (.iadd, 1) := by decide +kernel
theorem dL_law_419 : decode code 419 = .ok (.iaload, 1) := by decide +kernel
theorem dL_law_420 : decode code 420 = .ok (.invokevirtual 40, 3) := by decide +kernel
theorem dL_law_423 : decode code 423 = .ok (.if_icmp .eq 1077, 3) := by decide +kernel
theorem dL_law_426 : decode code 426 = .ok (.iconst 0, 1) := by decide +kernel
theorem dL_law_427 : decode code 427 = .ok (.ireturn, 1) := by decide +kernel
theorem dL_law_428 : decode code 428 = .ok (.aload_n 1, 1) := by decide +kernel
theorem dL_law_429 : decode code 429 = .ok (.aload_n 0, 1) := by decide +kernel
theorem dL_law_430 : decode code 430 = .ok (.iload_n 3, 1) := by decide +kernel
theorem dL_law_431 : decode code 431 = .ok (.iconst 1, 1) := by decide +kernel
theorem dL_law_432 : decode code 432 = .ok (.iadd, 1) := by decide +kernel
theorem dL_law_433 : decode code 433 = .ok (.iaload, 1) := by decide +kernel
theorem dL_law_434 : decode code 434 = .ok (.aload_n 0, 1) := by decide +kernel
theorem dL_law_435 : decode code 435 = .ok (.iload_n 3, 1) := by decide +kernel
theorem dL_law_436 : decode code 436 = .ok (.iconst 2, 1) := by decide +kernel
theorem dL_law_437 : decode code 437 = .ok (.iadd, 1) := by decide +kernel
theorem dL_law_438 : decode code 438 = .ok (.iaload, 1) := by decide +kernel
theorem dL_law_439 : decode code 439 = .ok (.aload_n 0, 1) := by decide +kernel
theorem dL_law_440 : decode code 440 = .ok (.iload_n 3, 1) := by decide +kernel
theorem dL_law_441 : decode code 441 = .ok (.iconst 3, 1) := by decide +kernel
theorem dL_law_442 : decode code 442 = .ok (.iadd, 1) := by decide +kernel
theorem dL_law_443 : decode code 443 = .ok (.iaload, 1) := by decide +kernel
theorem dL_law_444 : decode code 444 = .ok (.invokevirtual 41, 3) := by decide +kernel
theorem dL_law_447 : decode code 447 = .ok (.aload_n 2, 1) := by decide +kernel
theorem dL_law_448 : decode code 448 = .ok (.aload_n 0, 1) := by decide +kernel
theorem dL_law_449 : decode code 449 = .ok (.iload_n 3, 1) := by decide +kernel
theorem dL_law_450 : decode code 450 = .ok (.iconst 1, 1) := by decide +kernel
theorem dL_law_451 : decode code 451 = .ok (.iadd, 1) := by decide +kernel
theorem dL_law_452 : decode code 452 = .ok (.iaload, 1) := by decide +kernel
theorem dL_law_453 : decode code 453 = .ok (.aload_n 0, 1) := by decide +kernel
theorem dL_law_454 : decode code 454 = .ok (.iload_n 3, 1) := by decide +kernel
theorem dL_law_455 : decode code 455 = .ok (.iconst 2, 1) := by decide +kernel
theorem dL_law_456 : decode code 456 = .ok (.iadd, 1) := by decide +kernel
theorem dL_law_457 : decode code 457 = .ok (.iaload, 1) := by decide +kernel
theorem dL_law_458 : decode code 458 = .ok (.aload_n 0, 1) := by decide +kernel
theorem dL_law_459 : decode code 459 = .ok (.iload_n 3, 1) := by decide +kernel
theorem dL_law_460 : decode code 460 = .ok (.iconst 3, 1) := by decide +kernel
theorem dL_law_461 : decode code 461 = .ok (.iadd, 1) := by decide +kernel
theorem dL_law_462 : decode code 462 = .ok (.iaload, 1) := by decide +kernel
theorem dL_law_463 : decode code 463 = .ok (.invokevirtual 44, 3) := by decide +kernel
theorem dL_law_466 : decode code 466 = .ok (.if_icmp .eq 1034, 3) := by decide +kernel
theorem dL_law_469 : decode code 469 = .ok (.iconst 0, 1) := by decide +kernel
theorem dL_law_470 : decode code 470 = .ok (.ireturn, 1) := by decide +kernel
theorem dL_law_471 : decode code 471 = .ok (.aload_n 1, 1) := by decide +kernel
theorem dL_law_472 : decode code 472 = .ok (.aload_n 0, 1) := by decide +kernel
theorem dL_law_473 : decode code 473 = .ok (.iload_n 3, 1) := by decide +kernel
theorem dL_law_474 : decode code 474 = .ok (.iconst 1, 1) := by decide +kernel
theorem dL_law_475 : decode code 475 = .ok (.iadd, 1) := by decide +kernel
theorem dL_law_476 : decode code 476 = .ok (.iaload, 1) := by decide +kernel
theorem dL_law_477 : decode code 477 = .ok (.aload_n 0, 1) := by decide +kernel
theorem dL_law_478 : decode code 478 = .ok (.iload_n 3, 1) := by decide +kernel
theorem dL_law_479 : decode code 479 = .ok (.iconst 2, 1) := by decide +kernel
theorem dL_law_480 : decode code 480 = .ok (.iadd, 1) := by decide +kernel
theorem dL_law_481 : decode code 481 = .ok (.iaload, 1) := by decide +kernel
theorem dL_law_482 : decode code 482 = .ok (.invokevirtual 45, 3) := by decide +kernel
theorem dL_law_485 : decode code 485 = .ok (.aload_n 2, 1) := by decide +kernel
theorem dL_law_486 : decode code 486 = .ok (.aload_n 0, 1) := by decide +kernel
theorem dL_law_487 : decode code 487 = .ok (.iload_n 3, 1) := by decide +kernel
theorem dL_law_488 : decode code 488 = .ok (.iconst 1, 1) := by decide +kernel
theorem dL_law_489 : decode code 489 = .ok (.iadd, 1) := by decide +kernel
theorem dL_law_490 : decode code 490 = .ok (.iaload, 1) := by decide +kernel
theorem dL_law_491 : decode code 491 = .ok (.aload_n 0, 1) := by decide +kernel
theorem dL_law_492 : decode code 492 = .ok (.iload_n 3, 1) := by decide +kernel
theorem dL_law_493 : decode code 493 = .ok (.iconst 2, 1) := by decide +kernel
theorem dL_law_494 : decode code 494 = .ok (.iadd, 1) := by decide +kernel
theorem dL_law_495 : decode code 495 = .ok (.iaload, 1) := by decide +kernel
theorem dL_law_496 : decode code 496 = .ok (.invokevirtual 48, 3) := by decide +kernel
theorem dL_law_499 : decode code 499 = .ok (.if_icmp .eq 1001, 3) := by decide +kernel
theorem dL_law_502 : decode code 502 = .ok (.iconst 0, 1) := by decide +kernel
theorem dL_law_503 : decode code 503 = .ok (.ireturn, 1) := by decide +kernel
theorem dL_law_504 : decode code 504 = .ok (.aload_n 1, 1) := by decide +kernel
theorem dL_law_505 : decode code 505 = .ok (.aload_n 0, 1) := by decide +kernel
theorem dL_law_506 : decode code 506 = .ok (.iload_n 3, 1) := by decide +kernel
theorem dL_law_507 : decode code 507 = .ok (.iconst 1, 1) := by decide +kernel
theorem dL_law_508 : decode code 508 = .ok (.iadd, 1) := by decide +kernel
theorem dL_law_509 : decode code 509 = .ok (.iaload, 1) := by decide +kernel
theorem dL_law_510 : decode code 510 = .ok (.invokevirtual 49, 3) := by decide +kernel
theorem dL_law_513 : decode code 513 = .ok (.aload_n 2, 1) := by decide +kernel
theorem dL_law_514 : decode code 514 = .ok (.aload_n 0, 1) := by decide +kernel
theorem dL_law_515 : decode code 515 = .ok (.iload_n 3, 1) := by decide +kernel
theorem dL_law_516 : decode code 516 = .ok (.iconst 1, 1) := by decide +kernel
theorem dL_law_517 : decode code 517 = .ok (.iadd, 1) := by decide +kernel
theorem dL_law_518 : decode code 518 = .ok (.iaload, 1) := by decide +kernel
theorem dL_law_519 : decode code 519 = .ok (.invokevirtual 52, 3) := by decide +kernel
theorem dL_law_522 : decode code 522 = .ok (.if_icmp .eq 978, 3) := by decide +kernel
theorem dL_law_525 : decode code 525 = .ok (.iconst 0, 1) := by decide +kernel
theorem dL_law_526 : decode code 526 = .ok (.ireturn, 1) := by decide +kernel
theorem dL_law_527 : decode code 527 = .ok (.aload_n 1, 1) := by decide +kernel
theorem dL_law_528 : decode code 528 = .ok (.aload_n 0, 1) := by decide +kernel
theorem dL_law_529 : decode code 529 = .ok (.iload_n 3, 1) := by decide +kernel
theorem dL_law_530 : decode code 530 = .ok (.iconst 1, 1) := by decide +kernel
theorem dL_law_531 : decode code 531 = .ok (.iadd, 1) := by decide +kernel
theorem dL_law_532 : decode code 532 = .ok (.iaload, 1) := by decide +kernel
theorem dL_law_533 : decode code 533 = .ok (.aload_n 0, 1) := by decide +kernel
theorem dL_law_534 : decode code 534 = .ok (.iload_n 3, 1) := by decide +kernel
theorem dL_law_535 : decode code 535 = .ok (.iconst 2, 1) := by decide +kernel
theorem dL_law_536 : decode code 536 = .ok (.iadd, 1) := by decide +kernel
theorem dL_law_537 : decode code 537 = .ok (.iaload, 1) := by decide +kernel
theorem dL_law_538 : decode code 538 = .ok (.aload_n 0, 1) := by decide +kernel
theorem dL_law_539 : decode code 539 = .ok (.iload_n 3, 1) := by decide +kernel
theorem dL_law_540 : decode code 540 = .ok (.iconst 3, 1) := by decide +kernel
theorem dL_law_541 : decode code 541 = .ok (.iadd, 1) := by decide +kernel
theorem dL_law_542 : decode code 542 = .ok (.iaload, 1) := by decide +kernel
theorem dL_law_543 : decode code 543 = .ok (.aload_n 0, 1) := by decide +kernel
theorem dL_law_544 : decode code 544 = .ok (.iload_n 3, 1) := by decide +kernel
theorem dL_law_545 : decode code 545 = .ok (.iconst 4, 1) := by decide +kernel
theorem dL_law_546 : decode code 546 = .ok (.iadd, 1) := by decide +kernel
theorem dL_law_547 : decode code 547 = .ok (.iaload, 1) := by decide +kernel
theorem dL_law_548 : decode code 548 = .ok (.invokevirtual 53, 3) := by decide +kernel
theorem dL_law_551 : decode code 551 = .ok (.aload_n 2, 1) := by decide +kernel
theorem dL_law_552 : decode code 552 = .ok (.aload_n 0, 1) := by decide +kernel
theorem dL_law_553 : decode code 553 = .ok (.iload_n 3, 1) := by decide +kernel
theorem dL_law_554 : decode code 554 = .ok (.iconst 1, 1) := by decide +kernel
theorem dL_law_555 : decode code 555 = .ok (.iadd, 1) := by decide +kernel
theorem dL_law_556 : decode code 556 = .ok (.iaload, 1) := by decide +kernel
theorem dL_law_557 : decode code 557 = .ok (.aload_n 0, 1) := by decide +kernel
theorem dL_law_558 : decode code 558 = .ok (.iload_n 3, 1) := by decide +kernel
theorem dL_law_559 : decode code 559 = .ok (.iconst 2, 1) := by decide +kernel
theorem dL_law_560 : decode code 560 = .ok (.iadd, 1) := by decide +kernel
theorem dL_law_561 : decode code 561 = .ok (.iaload, 1) := by decide +kernel
theorem dL_law_562 : decode code 562 = .ok (.aload_n 0, 1) := by decide +kernel
theorem dL_law_563 : decode code 563 = .ok (.iload_n 3, 1) := by decide +kernel
theorem dL_law_564 : decode code 564 = .ok (.iconst 3, 1) := by decide +kernel
theorem dL_law_565 : decode code 565 = .ok (.iadd, 1) := by decide +kernel
theorem dL_law_566 : decode code 566 = .ok (.iaload, 1) := by decide +kernel
theorem dL_law_567 : decode code 567 = .ok (.aload_n 0, 1) := by decide +kernel
theorem dL_law_568 : decode code 568 = .ok (.iload_n 3, 1) := by decide +kernel
theorem dL_law_569 : decode code 569 = .ok (.iconst 4, 1) := by decide +kernel
theorem dL_law_570 : decode code 570 = .ok (.iadd, 1) := by decide +kernel
theorem dL_law_571 : decode code 571 = .ok (.iaload, 1) := by decide +kernel
theorem dL_law_572 : decode code 572 = .ok (.invokevirtual 56, 3) := by decide +kernel
theorem dL_law_575 : decode code 575 = .ok (.if_icmp .eq 925, 3) := by decide +kernel
theorem dL_law_578 : decode code 578 = .ok (.iconst 0, 1) := by decide +kernel
theorem dL_law_579 : decode code 579 = .ok (.ireturn, 1) := by decide +kernel
theorem dL_law_580 : decode code 580 = .ok (.aload_n 1, 1) := by decide +kernel
theorem dL_law_581 : decode code 581 = .ok (.aload_n 0, 1) := by decide +kernel
theorem dL_law_582 : decode code 582 = .ok (.iload_n 3, 1) := by decide +kernel
theorem dL_law_583 : decode code 583 = .ok (.iconst 1, 1) := by decide +kernel
theorem dL_law_584 : decode code 584 = .ok (.iadd, 1) := by decide +kernel
theorem dL_law_585 : decode code 585 = .ok (.iaload, 1) := by decide +kernel
theorem dL_law_586 : decode code 586 = .ok (.invokevirtual 57, 3) := by decide +kernel
theorem dL_law_589 : decode code 589 = .ok (.aload_n 2, 1) := by decide +kernel
theorem dL_law_590 : decode code 590 = .ok (.aload_n 0, 1) := by decide +kernel
theorem dL_law_591 : decode code 591 = .ok (.iload_n 3, 1) := by decide +kernel
theorem dL_law_592 : decode code 592 = .ok (.iconst 1, 1) := by decide +kernel
theorem dL_law_593 : decode code 593 = .ok (.iadd, 1) := by decide +kernel
theorem dL_law_594 : decode code 594 = .ok (.iaload, 1) := by decide +kernel
theorem dL_law_595 : decode code 595 = .ok (.invokevirtual 60, 3) := by decide +kernel
theorem dL_law_598 : decode code 598 = .ok (.if_icmp .eq 902, 3) := by decide +kernel
theorem dL_law_601 : decode code 601 = .ok (.iconst 0, 1) := by decide +kernel
theorem dL_law_602 : decode code 602 = .ok (.ireturn, 1) := by decide +kernel
theorem dL_law_603 : decode code 603 = .ok (.aload_n 1, 1) := by decide +kernel
theorem dL_law_604 : decode code 604 = .ok (.aload_n 0, 1) := by decide +kernel
theorem dL_law_605 : decode code 605 = .ok (.iload_n 3, 1) := by decide +kernel
theorem dL_law_606 : decode code 606 = .ok (.iconst 1, 1) := by decide +kernel
theorem dL_law_607 : decode code 607 = .ok (.iadd, 1) := by decide +kernel
theorem dL_law_608 : decode code 608 = .ok (.iaload, 1) := by decide +kernel
theorem dL_law_609 : decode code 609 = .ok (.invokevirtual 61, 3) := by decide +kernel
theorem dL_law_612 : decode code 612 = .ok (.aload_n 2, 1) := by decide +kernel
theorem dL_law_613 : decode code 613 = .ok (.aload_n 0, 1) := by decide +kernel
theorem dL_law_614 : decode code 614 = .ok (.iload_n 3, 1) := by decide +kernel
theorem dL_law_615 : decode code 615 = .ok (.iconst 1, 1) := by decide +kernel
theorem dL_law_616 : decode code 616 = .ok (.iadd, 1) := by decide +kernel
theorem dL_law_617 : decode code 617 = .ok (.iaload, 1) := by decide +kernel
theorem dL_law_618 : decode code 618 = .ok (.invokevirtual 64, 3) := by decide +kernel
theorem dL_law_621 : decode code 621 = .ok (.if_icmp .eq 879, 3) := by decide +kernel
theorem dL_law_624 : decode code 624 = .ok (.iconst 0, 1) := by decide +kernel
theorem dL_law_625 : decode code 625 = .ok (.ireturn, 1) := by decide +kernel
theorem dL_law_626 : decode code 626 = .ok (.aload_n 1, 1) := by decide +kernel
theorem dL_law_627 : decode code 627 = .ok (.aload_n 0, 1) := by decide +kernel
theorem dL_law_628 : decode code 628 = .ok (.iload_n 3, 1) := by decide +kernel
theorem dL_law_629 : decode code 629 = .ok (.iconst 1, 1) := by decide +kernel
theorem dL_law_630 : decode code 630 = .ok (.iadd, 1) := by decide +kernel
theorem dL_law_631 : decode code 631 = .ok (.iaload, 1) := by decide +kernel
theorem dL_law_632 : decode code 632 = .ok (.aload_n 0, 1) := by decide +kernel
theorem dL_law_633 : decode code 633 = .ok (.iload_n 3, 1) := by decide +kernel
theorem dL_law_634 : decode code 634 = .ok (.iconst 2, 1) := by decide +kernel
theorem dL_law_635 : decode code 635 = .ok (.iadd, 1) := by decide +kernel
theorem dL_law_636 : decode code 636 = .ok (.iaload, 1) := by decide +kernel
theorem dL_law_637 : decode code 637 = .ok (.invokevirtual 65, 3) := by decide +kernel
theorem dL_law_640 : decode code 640 = .ok (.aload_n 2, 1) := by decide +kernel
theorem dL_law_641 : decode code 641 = .ok (.aload_n 0, 1) := by decide +kernel
theorem dL_law_642 : decode code 642 = .ok (.iload_n 3, 1) := by decide +kernel
theorem dL_law_643 : decode code 643 = .ok (.iconst 1, 1) := by decide +kernel
theorem dL_law_644 : decode code 644 = .ok (.iadd, 1) := by decide +kernel
theorem dL_law_645 : decode code 645 = .ok (.iaload, 1) := by decide +kernel
theorem dL_law_646 : decode code 646 = .ok (.aload_n 0, 1) := by decide +kernel
theorem dL_law_647 : decode code 647 = .ok (.iload_n 3, 1) := by decide +kernel
theorem dL_law_648 : decode code 648 = .ok (.iconst 2, 1) := by decide +kernel
theorem dL_law_649 : decode code 649 = .ok (.iadd, 1) := by decide +kernel
theorem dL_law_650 : decode code 650 = .ok (.iaload, 1) := by decide +kernel
theorem dL_law_651 : decode code 651 = .ok (.invokevirtual 68, 3) := by decide +kernel
theorem dL_law_654 : decode code 654 = .ok (.if_icmp .eq 846, 3) := by decide +kernel
theorem dL_law_657 : decode code 657 = .ok (.iconst 0, 1) := by decide +kernel
theorem dL_law_658 : decode code 658 = .ok (.ireturn, 1) := by decide +kernel
theorem dL_law_659 : decode code 659 = .ok (.aload_n 1, 1) := by decide +kernel
theorem dL_law_660 : decode code 660 = .ok (.aload_n 0, 1) := by decide +kernel
theorem dL_law_661 : decode code 661 = .ok (.iload_n 3, 1) := by decide +kernel
theorem dL_law_662 : decode code 662 = .ok (.iconst 1, 1) := by decide +kernel
theorem dL_law_663 : decode code 663 = .ok (.iadd, 1) := by decide +kernel
theorem dL_law_664 : decode code 664 = .ok (.iaload, 1) := by decide +kernel
theorem dL_law_665 : decode code 665 = .ok (.invokevirtual 69, 3) := by decide +kernel
theorem dL_law_668 : decode code 668 = .ok (.aload_n 2, 1) := by decide +kernel
theorem dL_law_669 : decode code 669 = .ok (.aload_n 0, 1) := by decide +kernel
theorem dL_law_670 : decode code 670 = .ok (.iload_n 3, 1) := by decide +kernel
theorem dL_law_671 : decode code 671 = .ok (.iconst 1, 1) := by decide +kernel
theorem dL_law_672 : decode code 672 = .ok (.iadd, 1) := by decide +kernel
theorem dL_law_673 : decode code 673 = .ok (.iaload, 1) := by decide +kernel
theorem dL_law_674 : decode code 674 = .ok (.invokevirtual 72, 3) := by decide +kernel
theorem dL_law_677 : decode code 677 = .ok (.if_icmp .eq 823, 3) := by decide +kernel
theorem dL_law_680 : decode code 680 = .ok (.iconst 0, 1) := by decide +kernel
theorem dL_law_681 : decode code 681 = .ok (.ireturn, 1) := by decide +kernel
theorem dL_law_682 : decode code 682 = .ok (.aload_n 1, 1) := by decide +kernel
theorem dL_law_683 : decode code 683 = .ok (.aload_n 0, 1) := by decide +kernel
theorem dL_law_684 : decode code 684 = .ok (.iload_n 3, 1) := by decide +kernel
theorem dL_law_685 : decode code 685 = .ok (.iconst 1, 1) := by decide +kernel
theorem dL_law_686 : decode code 686 = .ok (.iadd, 1) := by decide +kernel
theorem dL_law_687 : decode code 687 = .ok (.iaload, 1) := by decide +kernel
theorem dL_law_688 : decode code 688 = .ok (.aload_n 0, 1) := by decide +kernel
theorem dL_law_689 : decode code 689 = .ok (.iload_n 3, 1) := by decide +kernel
theorem dL_law_690 : decode code 690 = .ok (.iconst 2, 1) := by decide +kernel
theorem dL_law_691 : decode code 691 = .ok (.iadd, 1) := by decide +kernel
theorem dL_law_692 : decode code 692 = .ok (.iaload, 1) := by decide +kernel
theorem dL_law_693 : decode code 693 = .ok (.aload_n 0, 1) := by decide +kernel
theorem dL_law_694 : decode code 694 = .ok (.iload_n 3, 1) := by decide +kernel
theorem dL_law_695 : decode code 695 = .ok (.iconst 3, 1) := by decide +kernel
theorem dL_law_696 : decode code 696 = .ok (.iadd, 1) := by decide +kernel
theorem dL_law_697 : decode code 697 = .ok (.iaload, 1) := by decide +kernel
theorem dL_law_698 : decode code 698 = .ok (.invokevirtual 73, 3) := by decide +kernel
theorem dL_law_701 : decode code 701 = .ok (.aload_n 2, 1) := by decide +kernel
theorem dL_law_702 : decode code 702 = .ok (.aload_n 0, 1) := by decide +kernel
theorem dL_law_703 : decode code 703 = .ok (.iload_n 3, 1) := by decide +kernel
theorem dL_law_704 : decode code 704 = .ok (.iconst 1, 1) := by decide +kernel
theorem dL_law_705 : decode code 705 = .ok (.iadd, 1) := by decide +kernel
theorem dL_law_706 : decode code 706 = .ok (.iaload, 1) := by decide +kernel
theorem dL_law_707 : decode code 707 = .ok (.aload_n 0, 1) := by decide +kernel
theorem dL_law_708 : decode code 708 = .ok (.iload_n 3, 1) := by decide +kernel
theorem dL_law_709 : decode code 709 = .ok (.iconst 2, 1) := by decide +kernel
theorem dL_law_710 : decode code 710 = .ok (.iadd, 1) := by decide +kernel
theorem dL_law_711 : decode code 711 = .ok (.iaload, 1) := by decide +kernel
theorem dL_law_712 : decode code 712 = .ok (.aload_n 0, 1) := by decide +kernel
theorem dL_law_713 : decode code 713 = .ok (.iload_n 3, 1) := by decide +kernel
theorem dL_law_714 : decode code 714 = .ok (.iconst 3, 1) := by decide +kernel
theorem dL_law_715 : decode code 715 = .ok (.iadd, 1) := by decide +kernel
theorem dL_law_716 : decode code 716 = .ok (.iaload, 1) := by decide +kernel
theorem dL_law_717 : decode code 717 = .ok (.invokevirtual 76, 3) := by decide +kernel
theorem dL_law_720 : decode code 720 = .ok (.if_icmp .eq 780, 3) := by decide +kernel
theorem dL_law_723 : decode code 723 = .ok (.iconst 0, 1) := by decide +kernel
theorem dL_law_724 : decode code 724 = .ok (.ireturn, 1) := by decide +kernel
theorem dL_law_725 : decode code 725 = .ok (.aload_n 1, 1) := by decide +kernel
theorem dL_law_726 : decode code 726 = .ok (.aload_n 0, 1) := by decide +kernel
theorem dL_law_727 : decode code 727 = .ok (.iload_n 3, 1) := by decide +kernel
theorem dL_law_728 : decode code 728 = .ok (.iconst 1, 1) := by decide +kernel
theorem dL_law_729 : decode code 729 = .ok (.iadd, 1) := by decide +kernel
theorem dL_law_730 : decode code 730 = .ok (.iaload, 1) := by decide +kernel
theorem dL_law_731 : decode code 731 = .ok (.aload_n 0, 1) := by decide +kernel
theorem dL_law_732 : decode code 732 = .ok (.iload_n 3, 1) := by decide +kernel
theorem dL_law_733 : decode code 733 = .ok (.iconst 2, 1) := by decide +kernel
theorem dL_law_734 : decode code 734 = .ok (.iadd, 1) := by decide +kernel
theorem dL_law_735 : decode code 735 = .ok (.iaload, 1) := by decide +kernel
theorem dL_law_736 : decode code 736 = .ok (.aload_n 0, 1) := by decide +kernel
theorem dL_law_737 : decode code 737 = .ok (.iload_n 3, 1) := by decide +kernel
theorem dL_law_738 : decode code 738 = .ok (.iconst 3, 1) := by decide +kernel
theorem dL_law_739 : decode code 739 = .ok (.iadd, 1) := by decide +kernel
theorem dL_law_740 : decode code 740 = .ok (.iaload, 1) := by decide +kernel
theorem dL_law_741 : decode code 741 = .ok (.aload_n 0, 1) := by decide +kernel
theorem dL_law_742 : decode code 742 = .ok (.iload_n 3, 1) := by decide +kernel
theorem dL_law_743 : decode code 743 = .ok (.iconst 4, 1) := by decide +kernel
theorem dL_law_744 : decode code 744 = .ok (.iadd, 1) := by decide +kernel
theorem dL_law_745 : decode code 745 = .ok (.iaload, 1) := by decide +kernel
theorem dL_law_746 : decode code 746 = .ok (.invokevirtual 77, 3) := by decide +kernel
theorem dL_law_749 : decode code 749 = .ok (.aload_n 2, 1) := by decide +kernel
theorem dL_law_750 : decode code 750 = .ok (.aload_n 0, 1) := by decide +kernel
theorem dL_law_751 : decode code 751 = .ok (.iload_n 3, 1) := by decide +kernel
theorem dL_law_752 : decode code 752 = .ok (.iconst 1, 1) := by decide +kernel
theorem dL_law_753 : decode code 753 = .ok (.iadd, 1) := by decide +kernel
theorem dL_law_754 : decode code 754 = .ok (.iaload, 1) := by decide +kernel
theorem dL_law_755 : decode code 755 = .ok (.aload_n 0, 1) := by decide +kernel
theorem dL_law_756 : decode code 756 = .ok (.iload_n 3, 1) := by decide +kernel
theorem dL_law_757 : decode code 757 = .ok (.iconst 2, 1) := by decide +kernel
theorem dL_law_758 : decode code 758 = .ok (.iadd, 1) := by decide +kernel
theorem dL_law_759 : decode code 759 = .ok (.iaload, 1) := by decide +kernel
theorem dL_law_760 : decode code 760 = .ok (.aload_n 0, 1) := by decide +kernel
theorem dL_law_761 : decode code 761 = .ok (.iload_n 3, 1) := by decide +kernel
theorem dL_law_762 : decode code 762 = .ok (.iconst 3, 1) := by decide +kernel
theorem dL_law_763 : decode code 763 = .ok (.iadd, 1) := by decide +kernel
theorem dL_law_764 : decode code 764 = .ok (.iaload, 1) := by decide +kernel
theorem dL_law_765 : decode code 765 = .ok (.aload_n 0, 1) := by decide +kernel
theorem dL_law_766 : decode code 766 = .ok (.iload_n 3, 1) := by decide +kernel
theorem dL_law_767 : decode code 767 = .ok (.iconst 4, 1) := by decide +kernel
theorem dL_law_768 : decode code 768 = .ok (.iadd, 1) := by decide +kernel
theorem dL_law_769 : decode code 769 = .ok (.iaload, 1) := by decide +kernel
theorem dL_law_770 : decode code 770 = .ok (.invokevirtual 80, 3) := by decide +kernel
theorem dL_law_773 : decode code 773 = .ok (.if_icmp .eq 727, 3) := by decide +kernel
theorem dL_law_776 : decode code 776 = .ok (.iconst 0, 1) := by decide +kernel
theorem dL_law_777 : decode code 777 = .ok (.ireturn, 1) := by decide +kernel
theorem dL_law_778 : decode code 778 = .ok (.aload_n 1, 1) := by decide +kernel
theorem dL_law_779 : decode code 779 = .ok (.aload_n 0, 1) := by decide +kernel
theorem dL_law_780 : decode code 780 = .ok (.iload_n 3, 1) := by decide +kernel
theorem dL_law_781 : decode code 781 = .ok (.iconst 1, 1) := by decide +kernel
theorem dL_law_782 : decode code 782 = .ok (.iadd, 1) := by decide +kernel
theorem dL_law_783 : decode code 783 = .ok (.iaload, 1) := by decide +kernel
theorem dL_law_784 : decode code 784 = .ok (.aload_n 0, 1) := by decide +kernel
theorem dL_law_785 : decode code 785 = .ok (.iload_n 3, 1) := by decide +kernel
theorem dL_law_786 : decode code 786 = .ok (.iconst 2, 1) := by decide +kernel
theorem dL_law_787 : decode code 787 = .ok (.iadd, 1) := by decide +kernel
theorem dL_law_788 : decode code 788 = .ok (.iaload, 1) := by decide +kernel
theorem dL_law_789 : decode code 789 = .ok (.invokevirtual 81, 3) := by decide +kernel
theorem dL_law_792 : decode code 792 = .ok (.aload_n 2, 1) := by decide +kernel
theorem dL_law_793 : decode code 793 = .ok (.aload_n 0, 1) := by decide +kernel
theorem dL_law_794 : decode code 794 = .ok (.iload_n 3, 1) := by decide +kernel
theorem dL_law_795 : decode code 795 = .ok (.iconst 1, 1) := by decide +kernel
theorem dL_law_796 : decode code 796 = .ok (.iadd, 1) := by decide +kernel
theorem dL_law_797 : decode code 797 = .ok (.iaload, 1) := by decide +kernel
theorem dL_law_798 : decode code 798 = .ok (.aload_n 0, 1) := by decide +kernel
theorem dL_law_799 : decode code 799 = .ok (.iload_n 3, 1) := by decide +kernel
theorem dL_law_800 : decode code 800 = .ok (.iconst 2, 1) := by decide +kernel
theorem dL_law_801 : decode code 801 = .ok (.iadd, 1) := by decide +kernel
theorem dL_law_802 : decode code 802 = .ok (.iaload, 1) := by decide +kernel
theorem dL_law_803 : decode code 803 = .ok (.invokevirtual 84, 3) := by decide +kernel
theorem dL_law_806 : decode code 806 = .ok (.if_icmp .eq 694, 3) := by decide +kernel
theorem dL_law_809 : decode code 809 = .ok (.iconst 0, 1) := by decide +kernel
theorem dL_law_810 : decode code 810 = .ok (.ireturn, 1) := by decide +kernel
theorem dL_law_811 : decode code 811 = .ok (.aload_n 1, 1) := by decide +kernel
theorem dL_law_812 : decode code 812 = .ok (.aload_n 0, 1) := by decide +kernel
theorem dL_law_813 : decode code 813 = .ok (.iload_n 3, 1) := by decide +kernel
theorem dL_law_814 : decode code 814 = .ok (.iconst 1, 1) := by decide +kernel
theorem dL_law_815 : decode code 815 = .ok (.iadd, 1) := by decide +kernel
theorem dL_law_816 : decode code 816 = .ok (.iaload, 1) := by decide +kernel
theorem dL_law_817 : decode code 817 = .ok (.invokevirtual 85, 3) := by decide +kernel
theorem dL_law_820 : decode code 820 = .ok (.aload_n 2, 1) := by decide +kernel
theorem dL_law_821 : decode code 821 = .ok (.aload_n 0, 1) := by decide +kernel
theorem dL_law_822 : decode code 822 = .ok (.iload_n 3, 1) := by decide +kernel
theorem dL_law_823 : decode code 823 = .ok (.iconst 1, 1) := by decide +kernel
theorem dL_law_824 : decode code 824 = .ok (.iadd, 1) := by decide +kernel
theorem dL_law_825 : decode code 825 = .ok (.iaload, 1) := by decide +kernel
theorem dL_law_826 : decode code 826 = .ok (.invokevirtual 88, 3) := by decide +kernel
theorem dL_law_829 : decode code 829 = .ok (.if_icmp .eq 671, 3) := by decide +kernel
theorem dL_law_832 : decode code 832 = .ok (.iconst 0, 1) := by decide +kernel
theorem dL_law_833 : decode code 833 = .ok (.ireturn, 1) := by decide +kernel
theorem dL_law_834 : decode code 834 = .ok (.aload_n 1, 1) := by decide +kernel
theorem dL_law_835 : decode code 835 = .ok (.aload_n 0, 1) := by decide +kernel
theorem dL_law_836 : decode code 836 = .ok (.iload_n 3, 1) := by decide +kernel
theorem dL_law_837 : decode code 837 = .ok (.iconst 1, 1) := by decide +kernel
theorem dL_law_838 : decode code 838 = .ok (.iadd, 1) := by decide +kernel
theorem dL_law_839 : decode code 839 = .ok (.iaload, 1) := by decide +kernel
theorem dL_law_840 : decode code 840 = .ok (.aload_n 0, 1) := by decide +kernel
theorem dL_law_841 : decode code 841 = .ok (.iload_n 3, 1) := by decide +kernel
theorem dL_law_842 : decode code 842 = .ok (.iconst 2, 1) := by decide +kernel
theorem dL_law_843 : decode code 843 = .ok (.iadd, 1) := by decide +kernel
theorem dL_law_844 : decode code 844 = .ok (.iaload, 1) := by decide +kernel
theorem dL_law_845 : decode code 845 = .ok (.invokevirtual 89, 3) := by decide +kernel
theorem dL_law_848 : decode code 848 = .ok (.aload_n 2, 1) := by decide +kernel
theorem dL_law_849 : decode code 849 = .ok (.aload_n 0, 1) := by decide +kernel
theorem dL_law_850 : decode code 850 = .ok (.iload_n 3, 1) := by decide +kernel
theorem dL_law_851 : decode code 851 = .ok (.iconst 1, 1) := by decide +kernel
theorem dL_law_852 : decode code 852 = .ok (.iadd, 1) := by decide +kernel
theorem dL_law_853 : decode code 853 = .ok (.iaload, 1) := by decide +kernel
theorem dL_law_854 : decode code 854 = .ok (.aload_n 0, 1) := by decide +kernel
theorem dL_law_855 : decode code 855 = .ok (.iload_n 3, 1) := by decide +kernel
theorem dL_law_856 : decode code 856 = .ok (.iconst 2, 1) := by decide +kernel
theorem dL_law_857 : decode code 857 = .ok (.iadd, 1) := by decide +kernel
theorem dL_law_858 : decode code 858 = .ok (.iaload, 1) := by decide +kernel
theorem dL_law_859 : decode code 859 = .ok (.invokevirtual 92, 3) := by decide +kernel
theorem dL_law_862 : decode code 862 = .ok (.if_icmp .eq 638, 3) := by decide +kernel
theorem dL_law_865 : decode code 865 = .ok (.iconst 0, 1) := by decide +kernel
theorem dL_law_866 : decode code 866 = .ok (.ireturn, 1) := by decide +kernel
theorem dL_law_867 : decode code 867 = .ok (.aload_n 1, 1) := by decide +kernel
theorem dL_law_868 : decode code 868 = .ok (.aload_n 0, 1) := by decide +kernel
theorem dL_law_869 : decode code 869 = .ok (.iload_n 3, 1) := by decide +kernel
theorem dL_law_870 : decode code 870 = .ok (.iconst 1, 1) := by decide +kernel
theorem dL_law_871 : decode code 871 = .ok (.iadd, 1) := by decide +kernel
theorem dL_law_872 : decode code 872 = .ok (.iaload, 1) := by decide +kernel
theorem dL_law_873 : decode code 873 = .ok (.aload_n 0, 1) := by decide +kernel
theorem dL_law_874 : decode code 874 = .ok (.iload_n 3, 1) := by decide +kernel
theorem dL_law_875 : decode code 875 = .ok (.iconst 2, 1) := by decide +kernel
theorem dL_law_876 : decode code 876 = .ok (.iadd, 1) := by decide +kernel
theorem dL_law_877 : decode code 877 = .ok (.iaload, 1) := by decide +kernel
theorem dL_law_878 : decode code 878 = .ok (.aload_n 0, 1) := by decide +kernel
theorem dL_law_879 : decode code 879 = .ok (.iload_n 3, 1) := by decide +kernel
theorem dL_law_880 : decode code 880 = .ok (.iconst 3, 1) := by decide +kernel
theorem dL_law_881 : decode code 881 = .ok (.iadd, 1) := by decide +kernel
theorem dL_law_882 : decode code 882 = .ok (.iaload, 1) := by decide +kernel
theorem dL_law_883 : decode code 883 = .ok (.invokevirtual 93, 3) := by decide +kernel
theorem dL_law_886 : decode code 886 = .ok (.aload_n 2, 1) := by decide +kernel
theorem dL_law_887 : decode code 887 = .ok (.aload_n 0, 1) := by decide +kernel
theorem dL_law_888 : decode code 888 = .ok (.iload_n 3, 1) := by decide +kernel
theorem dL_law_889 : decode code 889 = .ok (.iconst 1, 1) := by decide +kernel
theorem dL_law_890 : decode code 890 = .ok (.iadd, 1) := by decide +kernel
theorem dL_law_891 : decode code 891 = .ok (.iaload, 1) := by decide +kernel
theorem dL_law_892 : decode code 892 = .ok (.aload_n 0, 1) := by decide +kernel
theorem dL_law_893 : decode code 893 = .ok (.iload_n 3, 1) := by decide +kernel
theorem dL_law_894 : decode code 894 = .ok (.iconst 2, 1) := by decide +kernel
theorem dL_law_895 : decode code 895 = .ok (.iadd, 1) := by decide +kernel
theorem dL_law_896 : decode code 896 = .ok (.iaload, 1) := by decide +kernel
theorem dL_law_897 : decode code 897 = .ok (.aload_n 0, 1) := by decide +kernel
theorem dL_law_898 : decode code 898 = .ok (.iload_n 3, 1) := by decide +kernel
theorem dL_law_899 : decode code 899 = .ok (.iconst 3, 1) := by decide +kernel
theorem dL_law_900 : decode code 900 = .ok (.iadd, 1) := by decide +kernel
theorem dL_law_901 : decode code 901 = .ok (.iaload, 1) := by decide +kernel
theorem dL_law_902 : decode code 902 = .ok (.invokevirtual 96, 3) := by decide +kernel
theorem dL_law_905 : decode code 905 = .ok (.if_icmp .eq 595, 3) := by decide +kernel
theorem dL_law_908 : decode code 908 = .ok (.iconst 0, 1) := by decide +kernel
theorem dL_law_909 : decode code 909 = .ok (.ireturn, 1) := by decide +kernel
theorem dL_law_910 : decode code 910 = .ok (.aload_n 1, 1) := by decide +kernel
theorem dL_law_911 : decode code 911 = .ok (.aload_n 0, 1) := by decide +kernel
theorem dL_law_912 : decode code 912 = .ok (.iload_n 3, 1) := by decide +kernel
theorem dL_law_913 : decode code 913 = .ok (.iconst 1, 1) := by decide +kernel
theorem dL_law_914 : decode code 914 = .ok (.iadd, 1) := by decide +kernel
theorem dL_law_915 : decode code 915 = .ok (.iaload, 1) := by decide +kernel
theorem dL_law_916 : decode code 916 = .ok (.aload_n 0, 1) := by decide +kernel
theorem dL_law_917 : decode code 917 = .ok (.iload_n 3, 1) := by decide +kernel
theorem dL_law_918 : decode code 918 = .ok (.iconst 2, 1) := by decide +kernel
theorem dL_law_919 : decode code 919 = .ok (.iadd, 1) := by decide +kernel
theorem dL_law_920 : decode code 920 = .ok (.iaload, 1) := by decide +kernel
theorem dL_law_921 : decode code 921 = .ok (.aload_n 0, 1) := by decide +kernel
theorem dL_law_922 : decode code 922 = .ok (.iload_n 3, 1) := by decide +kernel
theorem dL_law_923 : decode code 923 = .ok (.iconst 3, 1) := by decide +kernel
theorem dL_law_924 : decode code 924 = .ok (.iadd, 1) := by decide +kernel
theorem dL_law_925 : decode code 925 = .ok (.iaload, 1) := by decide +kernel
theorem dL_law_926 : decode code 926 = .ok (.invokevirtual 97, 3) := by decide +kernel
theorem dL_law_929 : decode code 929 = .ok (.aload_n 2, 1) := by decide +kernel
theorem dL_law_930 : decode code 930 = .ok (.aload_n 0, 1) := by decide +kernel
theorem dL_law_931 : decode code 931 = .ok (.iload_n 3, 1) := by decide +kernel
theorem dL_law_932 : decode code 932 = .ok (.iconst 1, 1) := by decide +kernel
theorem dL_law_933 : decode code 933 = .ok (.iadd, 1) := by decide +kernel
theorem dL_law_934 : decode code 934 = .ok (.iaload, 1) := by decide +kernel
theorem dL_law_935 : decode code 935 = .ok (.aload_n 0, 1) := by decide +kernel
theorem dL_law_936 : decode code 936 = .ok (.iload_n 3, 1) := by decide +kernel
theorem dL_law_937 : decode code 937 = .ok (.iconst 2, 1) := by decide +kernel
theorem dL_law_938 : decode code 938 = .ok (.iadd, 1) := by decide +kernel
theorem dL_law_939 : decode code 939 = .ok (.iaload, 1) := by decide +kernel
theorem dL_law_940 : decode code 940 = .ok (.aload_n 0, 1) := by decide +kernel
theorem dL_law_941 : decode code 941 = .ok (.iload_n 3, 1) := by decide +kernel
theorem dL_law_942 : decode code 942 = .ok (.iconst 3, 1) := by decide +kernel
theorem dL_law_943 : decode code 943 = .ok (.iadd, 1) := by decide +kernel
theorem dL_law_944 : decode code 944 = .ok (.iaload, 1) := by decide +kernel
theorem dL_law_945 : decode code 945 = .ok (.invokevirtual 100, 3) := by decide +kernel
theorem dL_law_948 : decode code 948 = .ok (.if_icmp .eq 552, 3) := by decide +kernel
theorem dL_law_951 : decode code 951 = .ok (.iconst 0, 1) := by decide +kernel
theorem dL_law_952 : decode code 952 = .ok (.ireturn, 1) := by decide +kernel
theorem dL_law_953 : decode code 953 = .ok (.aload_n 1, 1) := by decide +kernel
theorem dL_law_954 : decode code 954 = .ok (.aload_n 0, 1) := by decide +kernel
theorem dL_law_955 : decode code 955 = .ok (.iload_n 3, 1) := by decide +kernel
theorem dL_law_956 : decode code 956 = .ok (.iconst 1, 1) := by decide +kernel
theorem dL_law_957 : decode code 957 = .ok (.iadd, 1) := by decide +kernel
theorem dL_law_958 : decode code 958 = .ok (.iaload, 1) := by decide +kernel
theorem dL_law_959 : decode code 959 = .ok (.invokevirtual 101, 3) := by decide +kernel
theorem dL_law_962 : decode code 962 = .ok (.aload_n 2, 1) := by decide +kernel
theorem dL_law_963 : decode code 963 = .ok (.aload_n 0, 1) := by decide +kernel
theorem dL_law_964 : decode code 964 = .ok (.iload_n 3, 1) := by decide +kernel
theorem dL_law_965 : decode code 965 = .ok (.iconst 1, 1) := by decide +kernel
theorem dL_law_966 : decode code 966 = .ok (.iadd, 1) := by decide +kernel
theorem dL_law_967 : decode code 967 = .ok (.iaload, 1) := by decide +kernel
theorem dL_law_968 : decode code 968 = .ok (.invokevirtual 104, 3) := by decide +kernel
theorem dL_law_971 : decode code 971 = .ok (.if_icmp .eq 529, 3) := by decide +kernel
theorem dL_law_974 : decode code 974 = .ok (.iconst 0, 1) := by decide +kernel
theorem dL_law_975 : decode code 975 = .ok (.ireturn, 1) := by decide +kernel
theorem dL_law_976 : decode code 976 = .ok (.aload_n 1, 1) := by decide +kernel
theorem dL_law_977 : decode code 977 = .ok (.aload_n 0, 1) := by decide +kernel
theorem dL_law_978 : decode code 978 = .ok (.iload_n 3, 1) := by decide +kernel
theorem dL_law_979 : decode code 979 = .ok (.iconst 1, 1) := by decide +kernel
theorem dL_law_980 : decode code 980 = .ok (.iadd, 1) := by decide +kernel
theorem dL_law_981 : decode code 981 = .ok (.iaload, 1) := by decide +kernel
theorem dL_law_982 : decode code 982 = .ok (.aload_n 0, 1) := by decide +kernel
theorem dL_law_983 : decode code 983 = .ok (.iload_n 3, 1) := by decide +kernel
theorem dL_law_984 : decode code 984 = .ok (.iconst 2, 1) := by decide +kernel
theorem dL_law_985 : decode code 985 = .ok (.iadd, 1) := by decide +kernel
theorem dL_law_986 : decode code 986 = .ok (.iaload, 1) := by decide +kernel
theorem dL_law_987 : decode code 987 = .ok (.invokevirtual 105, 3) := by decide +kernel
theorem dL_law_990 : decode code 990 = .ok (.aload_n 2, 1) := by decide +kernel
theorem dL_law_991 : decode code 991 = .ok (.aload_n 0, 1) := by decide +kernel
theorem dL_law_992 : decode code 992 = .ok (.iload_n 3, 1) := by decide +kernel
theorem dL_law_993 : decode code 993 = .ok (.iconst 1, 1) := by decide +kernel
theorem dL_law_994 : decode code 994 = .ok (.iadd, 1) := by decide +kernel
theorem dL_law_995 : decode code 995 = .ok (.iaload, 1) := by decide +kernel
theorem dL_law_996 : decode code 996 = .ok (.aload_n 0, 1) := by decide +kernel
theorem dL_law_997 : decode code 997 = .ok (.iload_n 3, 1) := by decide +kernel
theorem dL_law_998 : decode code 998 = .ok (.iconst 2, 1) := by decide +kernel
theorem dL_law_999 : decode code 999 = .ok (.iadd, 1) := by decide +kernel
theorem dL_law_1000 : decode code 1000 = .ok (.iaload, 1) := by decide +kernel
theorem dL_law_1001 : decode code 1001 = .ok (.invokevirtual 108, 3) := by decide +kernel
theorem dL_law_1004 : decode code 1004 = .ok (.if_icmp .eq 496, 3) := by decide +kernel
theorem dL_law_1007 : decode code 1007 = .ok (.iconst 0, 1) := by decide +kernel
theorem dL_law_1008 : decode code 1008 = .ok (.ireturn, 1) := by decide +kernel
theorem dL_law_1009 : decode code 1009 = .ok (.aload_n 1, 1) := by decide +kernel
theorem dL_law_1010 : decode code 1010 = .ok (.aload_n 0, 1) := by decide +kernel
theorem dL_law_1011 : decode code 1011 = .ok (.iload_n 3, 1) := by decide +kernel
theorem dL_law_1012 : decode code 1012 = .ok (.iconst 1, 1) := by decide +kernel
theorem dL_law_1013 : decode code 1013 = .ok (.iadd, 1) := by decide +kernel
theorem dL_law_1014 : decode code 1014 = .ok (.iaload, 1) := by decide +kernel
theorem dL_law_1015 : decode code 1015 = .ok (.aload_n 0, 1) := by decide +kernel
theorem dL_law_1016 : decode code 1016 = .ok (.iload_n 3, 1) := by decide +kernel
theorem dL_law_1017 : decode code 1017 = .ok (.iconst 2, 1) := by decide +kernel
theorem dL_law_1018 : decode code 1018 = .ok (.iadd, 1) := by decide +kernel
theorem dL_law_1019 : decode code 1019 = .ok (.iaload, 1) := by decide +kernel
theorem dL_law_1020 : decode code 1020 = .ok (.invokevirtual 109, 3) := by decide +kernel
theorem dL_law_1023 : decode code 1023 = .ok (.aload_n 2, 1) := by decide +kernel
theorem dL_law_1024 : decode code 1024 = .ok (.aload_n 0, 1) := by decide +kernel
theorem dL_law_1025 : decode code 1025 = .ok (.iload_n 3, 1) := by decide +kernel
theorem dL_law_1026 : decode code 1026 = .ok (.iconst 1, 1) := by decide +kernel
theorem dL_law_1027 : decode code 1027 = .ok (.iadd, 1) := by decide +kernel
theorem dL_law_1028 : decode code 1028 = .ok (.iaload, 1) := by decide +kernel
theorem dL_law_1029 : decode code 1029 = .ok (.aload_n 0, 1) := by decide +kernel
theorem dL_law_1030 : decode code 1030 = .ok (.iload_n 3, 1) := by decide +kernel
theorem dL_law_1031 : decode code 1031 = .ok (.iconst 2, 1) := by decide +kernel
theorem dL_law_1032 : decode code 1032 = .ok (.iadd, 1) := by decide +kernel
theorem dL_law_1033 : decode code 1033 = .ok (.iaload, 1) := by decide +kernel
theorem dL_law_1034 : decode code 1034 = .ok (.invokevirtual 112, 3) := by decide +kernel
theorem dL_law_1037 : decode code 1037 = .ok (.if_icmp .eq 463, 3) := by decide +kernel
theorem dL_law_1040 : decode code 1040 = .ok (.iconst 0, 1) := by decide +kernel
theorem dL_law_1041 : decode code 1041 = .ok (.ireturn, 1) := by decide +kernel
theorem dL_law_1042 : decode code 1042 = .ok (.aload_n 1, 1) := by decide +kernel
theorem dL_law_1043 : decode code 1043 = .ok (.aload_n 0, 1) := by decide +kernel
theorem dL_law_1044 : decode code 1044 = .ok (.iload_n 3, 1) := by decide +kernel
theorem dL_law_1045 : decode code 1045 = .ok (.iconst 1, 1) := by decide +kernel
theorem dL_law_1046 : decode code 1046 = .ok (.iadd, 1) := by decide +kernel
theorem dL_law_1047 : decode code 1047 = .ok (.iaload, 1) := by decide +kernel
theorem dL_law_1048 : decode code 1048 = .ok (.invokevirtual 113, 3) := by decide +kernel
theorem dL_law_1051 : decode code 1051 = .ok (.aload_n 2, 1) := by decide +kernel
theorem dL_law_1052 : decode code 1052 = .ok (.aload_n 0, 1) := by decide +kernel
theorem dL_law_1053 : decode code 1053 = .ok (.iload_n 3, 1) := by decide +kernel
theorem dL_law_1054 : decode code 1054 = .ok (.iconst 1, 1) := by decide +kernel
theorem dL_law_1055 : decode code 1055 = .ok (.iadd, 1) := by decide +kernel
theorem dL_law_1056 : decode code 1056 = .ok (.iaload, 1) := by decide +kernel
theorem dL_law_1057 : decode code 1057 = .ok (.invokevirtual 116, 3) := by decide +kernel
theorem dL_law_1060 : decode code 1060 = .ok (.if_icmp .eq 440, 3) := by decide +kernel
theorem dL_law_1063 : decode code 1063 = .ok (.iconst 0, 1) := by decide +kernel
theorem dL_law_1064 : decode code 1064 = .ok (.ireturn, 1) := by decide +kernel
theorem dL_law_1065 : decode code 1065 = .ok (.aload_n 1, 1) := by decide +kernel
theorem dL_law_1066 : decode code 1066 = .ok (.aload_n 0, 1) := by decide +kernel
theorem dL_law_1067 : decode code 1067 = .ok (.iload_n 3, 1) := by decide +kernel
theorem dL_law_1068 : decode code 1068 = .ok (.iconst 1, 1) := by decide +kernel
theorem dL_law_1069 : decode code 1069 = .ok (.iadd, 1) := by decide +kernel
theorem dL_law_1070 : decode code 1070 = .ok (.iaload, 1) := by decide +kernel
theorem dL_law_1071 : decode code 1071 = .ok (.invokevirtual 117, 3) := by decide +kernel
theorem dL_law_1074 : decode code 1074 = .ok (.aload_n 2, 1) := by decide +kernel
theorem dL_law_1075 : decode code 1075 = .ok (.aload_n 0, 1) := by decide +kernel
theorem dL_law_1076 : decode code 1076 = .ok (.iload_n 3, 1) := by decide +kernel
theorem dL_law_1077 : decode code 1077 = .ok (.iconst 1, 1) := by decide +kernel
theorem dL_law_1078 : decode code 1078 = .ok (.iadd, 1) := by decide +kernel
theorem dL_law_1079 : decode code 1079 = .ok (.iaload, 1) := by decide +kernel
theorem dL_law_1080 : decode code 1080 = .ok (.invokevirtual 120, 3) := by decide +kernel
theorem dL_law_1083 : decode code 1083 = .ok (.if_icmp .eq 417, 3) := by decide +kernel
theorem dL_law_1086 : decode code 1086 = .ok (.iconst 0, 1) := by decide +kernel
theorem dL_law_1087 : decode code 1087 = .ok (.ireturn, 1) := by decide +kernel
theorem dL_law_1088 : decode code 1088 = .ok (.aload_n 1, 1) := by decide +kernel
theorem dL_law_1089 : decode code 1089 = .ok (.aload_n 0, 1) := by decide +kernel
theorem dL_law_1090 : decode code 1090 = .ok (.iload_n 3, 1) := by decide +kernel
theorem dL_law_1091 : decode code 1091 = .ok (.iconst 1, 1) := by decide +kernel
theorem dL_law_1092 : decode code 1092 = .ok (.iadd, 1) := by decide +kernel
theorem dL_law_1093 : decode code 1093 = .ok (.iaload, 1) := by decide +kernel
theorem dL_law_1094 : decode code 1094 = .ok (.invokevirtual 121, 3) := by decide +kernel
theorem dL_law_1097 : decode code 1097 = .ok (.aload_n 2, 1) := by decide +kernel
theorem dL_law_1098 : decode code 1098 = .ok (.aload_n 0, 1) := by decide +kernel
theorem dL_law_1099 : decode code 1099 = .ok (.iload_n 3, 1) := by decide +kernel
theorem dL_law_1100 : decode code 1100 = .ok (.iconst 1, 1) := by decide +kernel
theorem dL_law_1101 : decode code 1101 = .ok (.iadd, 1) := by decide +kernel
theorem dL_law_1102 : decode code 1102 = .ok (.iaload, 1) := by decide +kernel
theorem dL_law_1103 : decode code 1103 = .ok (.invokevirtual 124, 3) := by decide +kernel
theorem dL_law_1106 : decode code 1106 = .ok (.if_icmp .eq 394, 3) := by decide +kernel
theorem dL_law_1109 : decode code 1109 = .ok (.iconst 0, 1) := by decide +kernel
theorem dL_law_1110 : decode code 1110 = .ok (.ireturn, 1) := by decide +kernel
theorem dL_law_1111 : decode code 1111 = .ok (.aload_n 1, 1) := by decide +kernel
theorem dL_law_1112 : decode code 1112 = .ok (.aload_n 0, 1) := by decide +kernel
theorem dL_law_1113 : decode code 1113 = .ok (.iload_n 3, 1) := by decide +kernel
theorem dL_law_1114 : decode code 1114 = .ok (.iconst 1, 1) := by decide +kernel
theorem dL_law_1115 : decode code 1115 = .ok (.iadd, 1) := by decide +kernel
theorem dL_law_1116 : decode code 1116 = .ok (.iaload, 1) := by decide +kernel
theorem dL_law_1117 : decode code 1117 = .ok (.invokevirtual 125, 3) := by decide +kernel
theorem dL_law_1120 : decode code 1120 = .ok (.aload_n 2, 1) := by decide +kernel
theorem dL_law_1121 : decode code 1121 = .ok (.aload_n 0, 1) := by decide +kernel
theorem dL_law_1122 : decode code 1122 = .ok (.iload_n 3, 1) := by decide +kernel
theorem dL_law_1123 : decode code 1123 = .ok (.iconst 1, 1) := by decide +kernel
theorem dL_law_1124 : decode code 1124 = .ok (.iadd, 1) := by decide +kernel
theorem dL_law_1125 : decode code 1125 = .ok (.iaload, 1) := by decide +kernel
theorem dL_law_1126 : decode code 1126 = .ok (.invokevirtual 128, 3) := by decide +kernel
theorem dL_law_1129 : decode code 1129 = .ok (.if_icmp .eq 371, 3) := by decide +kernel
theorem dL_law_1132 : decode code 1132 = .ok (.iconst 0, 1) := by decide +kernel
theorem dL_law_1133 : decode code 1133 = .ok (.ireturn, 1) := by decide +kernel
theorem dL_law_1134 : decode code 1134 = .ok (.aload_n 1, 1) := by decide +kernel
theorem dL_law_1135 : decode code 1135 = .ok (.invokevirtual 129, 3) := by decide +kernel
theorem dL_law_1138 : decode code 1138 = .ok (.aload_n 2, 1) := by decide +kernel
theorem dL_law_1139 : decode code 1139 = .ok (.invokevirtual 133, 3) := by decide +kernel
theorem dL_law_1142 : decode code 1142 = .ok (.if_icmp .eq 358, 3) := by decide +kernel
theorem dL_law_1145 : decode code 1145 = .ok (.iconst 0, 1) := by decide +kernel
theorem dL_law_1146 : decode code 1146 = .ok (.ireturn, 1) := by decide +kernel
theorem dL_law_1147 : decode code 1147 = .ok (.aload_n 1, 1) := by decide +kernel
theorem dL_law_1148 : decode code 1148 = .ok (.aload_n 0, 1) := by decide +kernel
theorem dL_law_1149 : decode code 1149 = .ok (.iload_n 3, 1) := by decide +kernel
theorem dL_law_1150 : decode code 1150 = .ok (.iconst 1, 1) := by decide +kernel
theorem dL_law_1151 : decode code 1151 = .ok (.iadd, 1) := by decide +kernel
theorem dL_law_1152 : decode code 1152 = .ok (.iaload, 1) := by decide +kernel
theorem dL_law_1153 : decode code 1153 = .ok (.invokevirtual 134, 3) := by decide +kernel
theorem dL_law_1156 : decode code 1156 = .ok (.aload_n 2, 1) := by decide +kernel
theorem dL_law_1157 : decode code 1157 = .ok (.aload_n 0, 1) := by decide +kernel
theorem dL_law_1158 : decode code 1158 = .ok (.iload_n 3, 1) := by decide +kernel
theorem dL_law_1159 : decode code 1159 = .ok (.iconst 1, 1) := by decide +kernel
theorem dL_law_1160 : decode code 1160 = .ok (.iadd, 1) := by decide +kernel
theorem dL_law_1161 : decode code 1161 = .ok (.iaload, 1) := by decide +kernel
theorem dL_law_1162 : decode code 1162 = .ok (.invokevirtual 137, 3) := by decide +kernel
theorem dL_law_1165 : decode code 1165 = .ok (.if_icmp .eq 335, 3) := by decide +kernel
theorem dL_law_1168 : decode code 1168 = .ok (.iconst 0, 1) := by decide +kernel
theorem dL_law_1169 : decode code 1169 = .ok (.ireturn, 1) := by decide +kernel
theorem dL_law_1170 : decode code 1170 = .ok (.aload_n 1, 1) := by decide +kernel
theorem dL_law_1171 : decode code 1171 = .ok (.aload_n 0, 1) := by decide +kernel
theorem dL_law_1172 : decode code 1172 = .ok (.iload_n 3, 1) := by decide +kernel
theorem dL_law_1173 : decode code 1173 = .ok (.iconst 1, 1) := by decide +kernel
theorem dL_law_1174 : decode code 1174 = .ok (.iadd, 1) := by decide +kernel
theorem dL_law_1175 : decode code 1175 = .ok (.iaload, 1) := by decide +kernel
theorem dL_law_1176 : decode code 1176 = .ok (.invokevirtual 138, 3) := by decide +kernel
theorem dL_law_1179 : decode code 1179 = .ok (.aload_n 2, 1) := by decide +kernel
theorem dL_law_1180 : decode code 1180 = .ok (.aload_n 0, 1) := by decide +kernel
theorem dL_law_1181 : decode code 1181 = .ok (.iload_n 3, 1) := by decide +kernel
theorem dL_law_1182 : decode code 1182 = .ok (.iconst 1, 1) := by decide +kernel
theorem dL_law_1183 : decode code 1183 = .ok (.iadd, 1) := by decide +kernel
theorem dL_law_1184 : decode code 1184 = .ok (.iaload, 1) := by decide +kernel
theorem dL_law_1185 : decode code 1185 = .ok (.invokevirtual 141, 3) := by decide +kernel
theorem dL_law_1188 : decode code 1188 = .ok (.if_icmp .eq 312, 3) := by decide +kernel
theorem dL_law_1191 : decode code 1191 = .ok (.iconst 0, 1) := by decide +kernel
theorem dL_law_1192 : decode code 1192 = .ok (.ireturn, 1) := by decide +kernel
theorem dL_law_1193 : decode code 1193 = .ok (.aload_n 1, 1) := by decide +kernel
theorem dL_law_1194 : decode code 1194 = .ok (.aload_n 0, 1) := by decide +kernel
theorem dL_law_1195 : decode code 1195 = .ok (.iload_n 3, 1) := by decide +kernel
theorem dL_law_1196 : decode code 1196 = .ok (.iconst 1, 1) := by decide +kernel
theorem dL_law_1197 : decode code 1197 = .ok (.iadd, 1) := by decide +kernel
theorem dL_law_1198 : decode code 1198 = .ok (.iaload, 1) := by decide +kernel
theorem dL_law_1199 : decode code 1199 = .ok (.invokevirtual 142, 3) := by decide +kernel
theorem dL_law_1202 : decode code 1202 = .ok (.aload_n 2, 1) := by decide +kernel
theorem dL_law_1203 : decode code 1203 = .ok (.aload_n 0, 1) := by decide +kernel
theorem dL_law_1204 : decode code 1204 = .ok (.iload_n 3, 1) := by decide +kernel
theorem dL_law_1205 : decode code 1205 = .ok (.iconst 1, 1) := by decide +kernel
theorem dL_law_1206 : decode code 1206 = .ok (.iadd, 1) := by decide +kernel
theorem dL_law_1207 : decode code 1207 = .ok (.iaload, 1) := by decide +kernel
theorem dL_law_1208 : decode code 1208 = .ok (.invokevirtual 145, 3) := by decide +kernel
theorem dL_law_1211 : decode code 1211 = .ok (.if_icmp .eq 289, 3) := by decide +kernel
theorem dL_law_1214 : decode code 1214 = .ok (.iconst 0, 1) := by decide +kernel
theorem dL_law_1215 : decode code 1215 = .ok (.ireturn, 1) := by decide +kernel
theorem dL_law_1216 : decode code 1216 = .ok (.aload_n 1, 1) := by decide +kernel
theorem dL_law_1217 : decode code 1217 = .ok (.aload_n 0, 1) := by decide +kernel
theorem dL_law_1218 : decode code 1218 = .ok (.iload_n 3, 1) := by decide +kernel
theorem dL_law_1219 : decode code 1219 = .ok (.iconst 1, 1) := by decide +kernel
theorem dL_law_1220 : decode code 1220 = .ok (.iadd, 1) := by decide +kernel
theorem dL_law_1221 : decode code 1221 = .ok (.iaload, 1) := by decide +kernel
theorem dL_law_1222 : decode code 1222 = .ok (.invokevirtual 146, 3) := by decide +kernel
theorem dL_law_1225 : decode code 1225 = .ok (.aload_n 2, 1) := by decide +kernel
theorem dL_law_1226 : decode code 1226 = .ok (.aload_n 0, 1) := by decide +kernel
theorem dL_law_1227 : decode code 1227 = .ok (.iload_n 3, 1) := by decide +kernel
theorem dL_law_1228 : decode code 1228 = .ok (.iconst 1, 1) := by decide +kernel
theorem dL_law_1229 : decode code 1229 = .ok (.iadd, 1) := by decide +kernel
theorem dL_law_1230 : decode code 1230 = .ok (.iaload, 1) := by decide +kernel
theorem dL_law_1231 : decode code 1231 = .ok (.invokevirtual 149, 3) := by decide +kernel
theorem dL_law_1234 : decode code 1234 = .ok (.if_icmp .eq 266, 3) := by decide +kernel
theorem dL_law_1237 : decode code 1237 = .ok (.iconst 0, 1) := by decide +kernel
theorem dL_law_1238 : decode code 1238 = .ok (.ireturn, 1) := by decide +kernel
theorem dL_law_1239 : decode code 1239 = .ok (.aload_n 1, 1) := by decide +kernel
theorem dL_law_1240 : decode code 1240 = .ok (.aload_n 0, 1) := by decide +kernel
theorem dL_law_1241 : decode code 1241 = .ok (.iload_n 3, 1) := by decide +kernel
theorem dL_law_1242 : decode code 1242 = .ok (.iconst 1, 1) := by decide +kernel
theorem dL_law_1243 : decode code 1243 = .ok (.iadd, 1) := by decide +kernel
theorem dL_law_1244 : decode code 1244 = .ok (.iaload, 1) := by decide +kernel
theorem dL_law_1245 : decode code 1245 = .ok (.aload_n 0, 1) := by decide +kernel
theorem dL_law_1246 : decode code 1246 = .ok (.iload_n 3, 1) := by decide +kernel
theorem dL_law_1247 : decode code 1247 = .ok (.iconst 2, 1) := by decide +kernel
theorem dL_law_1248 : decode code 1248 = .ok (.iadd, 1) := by decide +kernel
theorem dL_law_1249 : decode code 1249 = .ok (.iaload, 1) := by decide +kernel
theorem dL_law_1250 : decode code 1250 = .ok (.invokevirtual 150, 3) := by decide +kernel
theorem dL_law_1253 : decode code 1253 = .ok (.aload_n 2, 1) := by decide +kernel
theorem dL_law_1254 : decode code 1254 = .ok (.aload_n 0, 1) := by decide +kernel
theorem dL_law_1255 : decode code 1255 = .ok (.iload_n 3, 1) := by decide +kernel
theorem dL_law_1256 : decode code 1256 = .ok (.iconst 1, 1) := by decide +kernel
theorem dL_law_1257 : decode code 1257 = .ok (.iadd, 1) := by decide +kernel
theorem dL_law_1258 : decode code 1258 = .ok (.iaload, 1) := by decide +kernel
theorem dL_law_1259 : decode code 1259 = .ok (.aload_n 0, 1) := by decide +kernel
theorem dL_law_1260 : decode code 1260 = .ok (.iload_n 3, 1) := by decide +kernel
theorem dL_law_1261 : decode code 1261 = .ok (.iconst 2, 1) := by decide +kernel
theorem dL_law_1262 : decode code 1262 = .ok (.iadd, 1) := by decide +kernel
theorem dL_law_1263 : decode code 1263 = .ok (.iaload, 1) := by decide +kernel
theorem dL_law_1264 : decode code 1264 = .ok (.invokevirtual 153, 3) := by decide +kernel
theorem dL_law_1267 : decode code 1267 = .ok (.if_icmp .eq 233, 3) := by decide +kernel
theorem dL_law_1270 : decode code 1270 = .ok (.iconst 0, 1) := by decide +kernel
theorem dL_law_1271 : decode code 1271 = .ok (.ireturn, 1) := by decide +kernel
theorem dL_law_1272 : decode code 1272 = .ok (.aload_n 1, 1) := by decide +kernel
theorem dL_law_1273 : decode code 1273 = .ok (.aload_n 0, 1) := by decide +kernel
theorem dL_law_1274 : decode code 1274 = .ok (.iload_n 3, 1) := by decide +kernel
theorem dL_law_1275 : decode code 1275 = .ok (.iconst 1, 1) := by decide +kernel
theorem dL_law_1276 : decode code 1276 = .ok (.iadd, 1) := by decide +kernel
theorem dL_law_1277 : decode code 1277 = .ok (.iaload, 1) := by decide +kernel
theorem dL_law_1278 : decode code 1278 = .ok (.aload_n 0, 1) := by decide +kernel
theorem dL_law_1279 : decode code 1279 = .ok (.iload_n 3, 1) := by decide +kernel
theorem dL_law_1280 : decode code 1280 = .ok (.iconst 2, 1) := by decide +kernel
theorem dL_law_1281 : decode code 1281 = .ok (.iadd, 1) := by decide +kernel
theorem dL_law_1282 : decode code 1282 = .ok (.iaload, 1) := by decide +kernel
theorem dL_law_1283 : decode code 1283 = .ok (.aload_n 0, 1) := by decide +kernel
theorem dL_law_1284 : decode code 1284 = .ok (.iload_n 3, 1) := by decide +kernel
theorem dL_law_1285 : decode code 1285 = .ok (.iconst 3, 1) := by decide +kernel
theorem dL_law_1286 : decode code 1286 = .ok (.iadd, 1) := by decide +kernel
theorem dL_law_1287 : decode code 1287 = .ok (.iaload, 1) := by decide +kernel
theorem dL_law_1288 : decode code 1288 = .ok (.i2l, 1) := by decide +kernel
theorem dL_law_1289 : decode code 1289 = .ok (.bipush 32, 2) := by decide +kernel
theorem dL_law_1291 : decode code 1291 = .ok (.lshl, 1) := by decide +kernel
theorem dL_law_1292 : decode code 1292 = .ok (.aload_n 0, 1) := by decide +kernel
theorem dL_law_1293 : decode code 1293 = .ok (.iload_n 3, 1) := by decide +kernel
theorem dL_law_1294 : decode code 1294 = .ok (.iconst 4, 1) := by decide +kernel
theorem dL_law_1295 : decode code 1295 = .ok (.iadd, 1) := by decide +kernel
theorem dL_law_1296 : decode code 1296 = .ok (.iaload, 1) := by decide +kernel
theorem dL_law_1297 : decode code 1297 = .ok (.i2l, 1) := by decide +kernel
theorem dL_law_1298 : decode code 1298 = .ok (.ldc2_w 154, 3) := by decide +kernel
theorem dL_law_1301 : decode code 1301 = .ok (.land, 1) := by decide +kernel
theorem dL_law_1302 : decode code 1302 = .ok (.lor, 1) := by decide +kernel
theorem dL_law_1303 : decode code 1303 = .ok (.invokevirtual 156, 3) := by decide +kernel
theorem dL_law_1306 : decode code 1306 = .ok (.aload_n 2, 1) := by decide +kernel
theorem dL_law_1307 : decode code 1307 = .ok (.aload_n 0, 1) := by decide +kernel
theorem dL_law_1308 : decode code 1308 = .ok (.iload_n 3, 1) := by decide +kernel
theorem dL_law_1309 : decode code 1309 = .ok (.iconst 1, 1) := by decide +kernel
theorem dL_law_1310 : decode code 1310 = .ok (.iadd, 1) := by decide +kernel
theorem dL_law_1311 : decode code 1311 = .ok (.iaload, 1) := by decide +kernel
theorem dL_law_1312 : decode code 1312 = .ok (.aload_n 0, 1) := by decide +kernel
theorem dL_law_1313 : decode code 1313 = .ok (.iload_n 3, 1) := by decide +kernel
theorem dL_law_1314 : decode code 1314 = .ok (.iconst 2, 1) := by decide +kernel
theorem dL_law_1315 : decode code 1315 = .ok (.iadd, 1) := by decide +kernel
theorem dL_law_1316 : decode code 1316 = .ok (.iaload, 1) := by decide +kernel
theorem dL_law_1317 : decode code 1317 = .ok (.aload_n 0, 1) := by decide +kernel
theorem dL_law_1318 : decode code 1318 = .ok (.iload_n 3, 1) := by decide +kernel
theorem dL_law_1319 : decode code 1319 = .ok (.iconst 3, 1) := by decide +kernel
theorem dL_law_1320 : decode code 1320 = .ok (.iadd, 1) := by decide +kernel
theorem dL_law_1321 : decode code 1321 = .ok (.iaload, 1) := by decide +kernel
theorem dL_law_1322 : decode code 1322 = .ok (.i2l, 1) := by decide +kernel
theorem dL_law_1323 : decode code 1323 = .ok (.bipush 32, 2) := by decide +kernel
theorem dL_law_1325 : decode code 1325 = .ok (.lshl, 1) := by decide +kernel
theorem dL_law_1326 : decode code 1326 = .ok (.aload_n 0, 1) := by decide +kernel
theorem dL_law_1327 : decode code 1327 = .ok (.iload_n 3, 1) := by decide +kernel
theorem dL_law_1328 : decode code 1328 = .ok (.iconst 4, 1) := by decide +kernel
theorem dL_law_1329 : decode code 1329 = .ok (.iadd, 1) := by decide +kernel
theorem dL_law_1330 : decode code 1330 = .ok (.iaload, 1) := by decide +kernel
theorem dL_law_1331 : decode code 1331 = .ok (.i2l, 1) := by decide +kernel
theorem dL_law_1332 : decode code 1332 = .ok (.ldc2_w 154, 3) := by decide +kernel
theorem dL_law_1335 : decode code 1335 = .ok (.land, 1) := by decide +kernel
theorem dL_law_1336 : decode code 1336 = .ok (.lor, 1) := by decide +kernel
theorem dL_law_1337 : decode code 1337 = .ok (.invokevirtual 160, 3) := by decide +kernel
theorem dL_law_1340 : decode code 1340 = .ok (.if_icmp .eq 160, 3) := by decide +kernel
theorem dL_law_1343 : decode code 1343 = .ok (.iconst 0, 1) := by decide +kernel
theorem dL_law_1344 : decode code 1344 = .ok (.ireturn, 1) := by decide +kernel
theorem dL_law_1345 : decode code 1345 = .ok (.aload_n 1, 1) := by decide +kernel
theorem dL_law_1346 : decode code 1346 = .ok (.aload_n 0, 1) := by decide +kernel
theorem dL_law_1347 : decode code 1347 = .ok (.iload_n 3, 1) := by decide +kernel
theorem dL_law_1348 : decode code 1348 = .ok (.iconst 1, 1) := by decide +kernel
theorem dL_law_1349 : decode code 1349 = .ok (.iadd, 1) := by decide +kernel
theorem dL_law_1350 : decode code 1350 = .ok (.iaload, 1) := by decide +kernel
theorem dL_law_1351 : decode code 1351 = .ok (.aload_n 0, 1) := by decide +kernel
theorem dL_law_1352 : decode code 1352 = .ok (.iload_n 3, 1) := by decide +kernel
theorem dL_law_1353 : decode code 1353 = .ok (.iconst 2, 1) := by decide +kernel
theorem dL_law_1354 : decode code 1354 = .ok (.iadd, 1) := by decide +kernel
theorem dL_law_1355 : decode code 1355 = .ok (.iaload, 1) := by decide +kernel
theorem dL_law_1356 : decode code 1356 = .ok (.invokevirtual 161, 3) := by decide +kernel
theorem dL_law_1359 : decode code 1359 = .ok (.aload_n 2, 1) := by decide +kernel
theorem dL_law_1360 : decode code 1360 = .ok (.aload_n 0, 1) := by decide +kernel
theorem dL_law_1361 : decode code 1361 = .ok (.iload_n 3, 1) := by decide +kernel
theorem dL_law_1362 : decode code 1362 = .ok (.iconst 1, 1) := by decide +kernel
theorem dL_law_1363 : decode code 1363 = .ok (.iadd, 1) := by decide +kernel
theorem dL_law_1364 : decode code 1364 = .ok (.iaload, 1) := by decide +kernel
theorem dL_law_1365 : decode code 1365 = .ok (.aload_n 0, 1) := by decide +kernel
theorem dL_law_1366 : decode code 1366 = .ok (.iload_n 3, 1) := by decide +kernel
theorem dL_law_1367 : decode code 1367 = .ok (.iconst 2, 1) := by decide +kernel
theorem dL_law_1368 : decode code 1368 = .ok (.iadd, 1) := by decide +kernel
theorem dL_law_1369 : decode code 1369 = .ok (.iaload, 1) := by decide +kernel
theorem dL_law_1370 : decode code 1370 = .ok (.invokevirtual 165, 3) := by decide +kernel
theorem dL_law_1373 : decode code 1373 = .ok (.lcmp, 1) := by decide +kernel
theorem dL_law_1374 : decode code 1374 = .ok (.ifCond .eq 126, 3) := by decide +kernel
theorem dL_law_1377 : decode code 1377 = .ok (.iconst 0, 1) := by decide +kernel
theorem dL_law_1378 : decode code 1378 = .ok (.ireturn, 1) := by decide +kernel
theorem dL_law_1379 : decode code 1379 = .ok (.aload_n 1, 1) := by decide +kernel
theorem dL_law_1380 : decode code 1380 = .ok (.aload_n 0, 1) := by decide +kernel
theorem dL_law_1381 : decode code 1381 = .ok (.iload_n 3, 1) := by decide +kernel
theorem dL_law_1382 : decode code 1382 = .ok (.iconst 1, 1) := by decide +kernel
theorem dL_law_1383 : decode code 1383 = .ok (.iadd, 1) := by decide +kernel
theorem dL_law_1384 : decode code 1384 = .ok (.iaload, 1) := by decide +kernel
theorem dL_law_1385 : decode code 1385 = .ok (.invokevirtual 166, 3) := by decide +kernel
theorem dL_law_1388 : decode code 1388 = .ok (.aload_n 2, 1) := by decide +kernel
theorem dL_law_1389 : decode code 1389 = .ok (.aload_n 0, 1) := by decide +kernel
theorem dL_law_1390 : decode code 1390 = .ok (.iload_n 3, 1) := by decide +kernel
theorem dL_law_1391 : decode code 1391 = .ok (.iconst 1, 1) := by decide +kernel
theorem dL_law_1392 : decode code 1392 = .ok (.iadd, 1) := by decide +kernel
theorem dL_law_1393 : decode code 1393 = .ok (.iaload, 1) := by decide +kernel
theorem dL_law_1394 : decode code 1394 = .ok (.invokevirtual 169, 3) := by decide +kernel
theorem dL_law_1397 : decode code 1397 = .ok (.if_icmp .eq 103, 3) := by decide +kernel
theorem dL_law_1400 : decode code 1400 = .ok (.iconst 0, 1) := by decide +kernel
theorem dL_law_1401 : decode code 1401 = .ok (.ireturn, 1) := by decide +kernel
theorem dL_law_1402 : decode code 1402 = .ok (.aload_n 1, 1) := by decide +kernel
theorem dL_law_1403 : decode code 1403 = .ok (.invokevirtual 170, 3) := by decide +kernel
theorem dL_law_1406 : decode code 1406 = .ok (.aload_n 2, 1) := by decide +kernel
theorem dL_law_1407 : decode code 1407 = .ok (.invokevirtual 173, 3) := by decide +kernel
theorem dL_law_1410 : decode code 1410 = .ok (.if_icmp .eq 90, 3) := by decide +kernel
theorem dL_law_1413 : decode code 1413 = .ok (.iconst 0, 1) := by decide +kernel
theorem dL_law_1414 : decode code 1414 = .ok (.ireturn, 1) := by decide +kernel
theorem dL_law_1415 : decode code 1415 = .ok (.aload_n 1, 1) := by decide +kernel
theorem dL_law_1416 : decode code 1416 = .ok (.invokevirtual 174, 3) := by decide +kernel
theorem dL_law_1419 : decode code 1419 = .ok (.aload_n 2, 1) := by decide +kernel
theorem dL_law_1420 : decode code 1420 = .ok (.invokevirtual 177, 3) := by decide +kernel
theorem dL_law_1423 : decode code 1423 = .ok (.if_icmp .eq 77, 3) := by decide +kernel
theorem dL_law_1426 : decode code 1426 = .ok (.iconst 0, 1) := by decide +kernel
theorem dL_law_1427 : decode code 1427 = .ok (.ireturn, 1) := by decide +kernel
theorem dL_law_1428 : decode code 1428 = .ok (.aload_n 1, 1) := by decide +kernel
theorem dL_law_1429 : decode code 1429 = .ok (.aload_n 0, 1) := by decide +kernel
theorem dL_law_1430 : decode code 1430 = .ok (.iload_n 3, 1) := by decide +kernel
theorem dL_law_1431 : decode code 1431 = .ok (.iconst 1, 1) := by decide +kernel
theorem dL_law_1432 : decode code 1432 = .ok (.iadd, 1) := by decide +kernel
theorem dL_law_1433 : decode code 1433 = .ok (.iaload, 1) := by decide +kernel
theorem dL_law_1434 : decode code 1434 = .ok (.invokevirtual 178, 3) := by decide +kernel
theorem dL_law_1437 : decode code 1437 = .ok (.aload_n 2, 1) := by decide +kernel
theorem dL_law_1438 : decode code 1438 = .ok (.aload_n 0, 1) := by decide +kernel
theorem dL_law_1439 : decode code 1439 = .ok (.iload_n 3, 1) := by decide +kernel
theorem dL_law_1440 : decode code 1440 = .ok (.iconst 1, 1) := by decide +kernel
theorem dL_law_1441 : decode code 1441 = .ok (.iadd, 1) := by decide +kernel
theorem dL_law_1442 : decode code 1442 = .ok (.iaload, 1) := by decide +kernel
theorem dL_law_1443 : decode code 1443 = .ok (.invokevirtual 181, 3) := by decide +kernel
theorem dL_law_1446 : decode code 1446 = .ok (.if_icmp .eq 54, 3) := by decide +kernel
theorem dL_law_1449 : decode code 1449 = .ok (.iconst 0, 1) := by decide +kernel
theorem dL_law_1450 : decode code 1450 = .ok (.ireturn, 1) := by decide +kernel
theorem dL_law_1451 : decode code 1451 = .ok (.aload_n 1, 1) := by decide +kernel
theorem dL_law_1452 : decode code 1452 = .ok (.invokevirtual 182, 3) := by decide +kernel
theorem dL_law_1455 : decode code 1455 = .ok (.aload_n 2, 1) := by decide +kernel
theorem dL_law_1456 : decode code 1456 = .ok (.invokevirtual 185, 3) := by decide +kernel
theorem dL_law_1459 : decode code 1459 = .ok (.if_icmp .eq 41, 3) := by decide +kernel
theorem dL_law_1462 : decode code 1462 = .ok (.iconst 0, 1) := by decide +kernel
theorem dL_law_1463 : decode code 1463 = .ok (.ireturn, 1) := by decide +kernel
theorem dL_law_1464 : decode code 1464 = .ok (.aload_n 1, 1) := by decide +kernel
theorem dL_law_1465 : decode code 1465 = .ok (.invokevirtual 186, 3) := by decide +kernel
theorem dL_law_1468 : decode code 1468 = .ok (.aload_n 2, 1) := by decide +kernel
theorem dL_law_1469 : decode code 1469 = .ok (.invokevirtual 189, 3) := by decide +kernel
theorem dL_law_1472 : decode code 1472 = .ok (.if_icmp .eq 28, 3) := by decide +kernel
theorem dL_law_1475 : decode code 1475 = .ok (.iconst 0, 1) := by decide +kernel
theorem dL_law_1476 : decode code 1476 = .ok (.ireturn, 1) := by decide +kernel
theorem dL_law_1477 : decode code 1477 = .ok (.aload_n 1, 1) := by decide +kernel
theorem dL_law_1478 : decode code 1478 = .ok (.aload_n 0, 1) := by decide +kernel
theorem dL_law_1479 : decode code 1479 = .ok (.iload_n 3, 1) := by decide +kernel
theorem dL_law_1480 : decode code 1480 = .ok (.iconst 1, 1) := by decide +kernel
theorem dL_law_1481 : decode code 1481 = .ok (.iadd, 1) := by decide +kernel
theorem dL_law_1482 : decode code 1482 = .ok (.iaload, 1) := by decide +kernel
theorem dL_law_1483 : decode code 1483 = .ok (.invokevirtual 190, 3) := by decide +kernel
theorem dL_law_1486 : decode code 1486 = .ok (.aload_n 2, 1) := by decide +kernel
theorem dL_law_1487 : decode code 1487 = .ok (.aload_n 0, 1) := by decide +kernel
theorem dL_law_1488 : decode code 1488 = .ok (.iload_n 3, 1) := by decide +kernel
theorem dL_law_1489 : decode code 1489 = .ok (.iconst 1, 1) := by decide +kernel
theorem dL_law_1490 : decode code 1490 = .ok (.iadd, 1) := by decide +kernel
theorem dL_law_1491 : decode code 1491 = .ok (.iaload, 1) := by decide +kernel
theorem dL_law_1492 : decode code 1492 = .ok (.invokevirtual 193, 3) := by decide +kernel
theorem dL_law_1495 : decode code 1495 = .ok (.if_icmp .eq 5, 3) := by decide +kernel
theorem dL_law_1498 : decode code 1498 = .ok (.iconst 0, 1) := by decide +kernel
theorem dL_law_1499 : decode code 1499 = .ok (.ireturn, 1) := by decide +kernel
theorem dL_law_1500 : decode code 1500 = .ok (.iinc 3 5, 3) := by decide +kernel
theorem dL_law_1503 : decode code 1503 = .ok (.goto (-1485), 3) := by decide +kernel
theorem dL_law_1506 : decode code 1506 = .ok (.iconst 1, 1) := by decide +kernel
theorem dL_law_1507 : decode code 1507 = .ok (.ireturn, 1) := by decide +kernel
theorem dX0_append_0 : decode cX0_append 0 = .ok (.aload_n 0, 1) := by decide +kernel
theorem dX0_append_1 : decode cX0_append 1 = .ok (.getfield 18, 3) := by decide +kernel
theorem dX0_append_4 : decode cX0_append 4 = .ok (.aload_n 0, 1) := by decide +kernel
theorem dX0_append_5 : decode cX0_append 5 = .ok (.getfield 33, 3) := by decide +kernel
theorem dX0_append_8 : decode cX0_append 8 = .ok (.iload_n 1, 1) := by decide +kernel
theorem dX0_append_9 : decode cX0_append 9 = .ok (.iload_n 2, 1) := by decide +kernel
theorem dX0_append_10 : decode cX0_append 10 = .ok (.invokevirtual 48, 3) := by decide +kernel
theorem dX0_append_13 : decode cX0_append 13 = .ok (.istore_n 3, 1) := by decide +kernel
theorem dX0_append_14 : decode cX0_append 14 = .ok (.iconst 0, 1) := by decide +kernel
theorem dX0_append_15 : decode cX0_append 15 = .ok (.istore 4, 2) := by decide +kernel
theorem dX0_append_17 : decode cX0_append 17 = .ok (.iload 4, 2) := by decide +kernel
theorem dX0_append_19 : decode cX0_append 19 = .ok (.bipush 16, 2) := by decide +kernel
theorem dX0_append_21 : decode cX0_append 21 = .ok (.if_icmp .ge 55, 3) := by decide +kernel
theorem dX0_append_24 : decode cX0_append 24 = .ok (.aload_n 0, 1) := by decide +kernel
theorem dX0_append_25 : decode cX0_append 25 = .ok (.getfield 26, 3) := by decide +kernel
theorem dX0_append_28 : decode cX0_append 28 = .ok (.sipush 153, 3) := by decide +kernel
theorem dX0_append_31 : decode cX0_append 31 = .ok (.if_icmp .ge 45, 3) := by decide +kernel
theorem dX0_append_34 : decode cX0_append 34 = .ok (.iload_n 3, 1) := by decide +kernel
theorem dX0_append_35 : decode cX0_append 35 = .ok (.iload 4, 2) := by decide +kernel
theorem dX0_append_37 : decode cX0_append 37 = .ok (.ishr, 1) := by decide +kernel
theorem dX0_append_38 : decode cX0_append 38 = .ok (.iconst 1, 1) := by decide +kernel
theorem dX0_append_39 : decode cX0_append 39 = .ok (.iand, 1) := by decide +kernel
theorem dX0_append_40 : decode cX0_append 40 = .ok (.iconst 1, 1) := by decide +kernel
theorem dX0_append_41 : decode cX0_append 41 = .ok (.if_icmp .ne 29, 3) := by decide +kernel
theorem dX0_append_44 : decode cX0_append 44 = .ok (.aload_n 0, 1) := by decide +kernel
theorem dX0_append_45 : decode cX0_append 45 = .ok (.getfield 22, 3) := by decide +kernel
theorem dX0_append_48 : decode cX0_append 48 = .ok (.aload_n 0, 1) := by decide +kernel
theorem dX0_append_49 : decode cX0_append 49 = .ok (.getfield 26, 3) := by decide +kernel
theorem dX0_append_52 : decode cX0_append 52 = .ok (.iload_n 1, 1) := by decide +kernel
theorem dX0_append_53 : decode cX0_append 53 = .ok (.iload_n 2, 1) := by decide +kernel
theorem dX0_append_54 : decode cX0_append 54 = .ok (.iload 4, 2) := by decide +kernel
theorem dX0_append_56 : decode cX0_append 56 = .ok (.invokestatic 52, 3) := by decide +kernel
theorem dX0_append_59 : decode cX0_append 59 = .ok (.iastore, 1) := by decide +kernel
theorem dX0_append_60 : decode cX0_append 60 = .ok (.aload_n 0, 1) := by decide +kernel
theorem dX0_append_61 : decode cX0_append 61 = .ok (.dup, 1) := by decide +kernel
theorem dX0_append_62 : decode cX0_append 62 = .ok (.getfield 26, 3) := by decide +kernel
theorem dX0_append_65 : decode cX0_append 65 = .ok (.iconst 1, 1) := by decide +kernel
theorem dX0_append_66 : decode cX0_append 66 = .ok (.iadd, 1) := by decide +kernel
theorem dX0_append_67 : decode cX0_append 67 = .ok (.putfield 26, 3) := by decide +kernel
theorem dX0_append_70 : decode cX0_append 70 = .ok (.iinc 4 1, 3) := by decide +kernel
theorem dX0_append_73 : decode cX0_append 73 = .ok (.goto (-56), 3) := by decide +kernel
theorem dX0_append_76 : decode cX0_append 76 = .ok (.return_, 1) := by decide +kernel
theorem dX0_dropClosed_0 : decode cX0_dropClosed 0 = .ok (.iconst 0, 1) := by decide +kernel
theorem dX0_dropClosed_1 : decode cX0_dropClosed 1 = .ok (.istore_n 1, 1) := by decide +kernel
theorem dX0_dropClosed_2 : decode cX0_dropClosed 2 = .ok (.iconst 0, 1) := by decide +kernel
theorem dX0_dropClosed_3 : decode cX0_dropClosed 3 = .ok (.istore_n 2, 1) := by decide +kernel
theorem dX0_dropClosed_4 : decode cX0_dropClosed 4 = .ok (.iload_n 2, 1) := by decide +kernel
theorem dX0_dropClosed_5 : decode cX0_dropClosed 5 = .ok (.aload_n 0, 1) := by decide +kernel
theorem dX0_dropClosed_6 : decode cX0_dropClosed 6 = .ok (.getfield 26, 3) := by decide +kernel
theorem dX0_dropClosed_9 : decode cX0_dropClosed 9 = .ok (.if_icmp .ge 44, 3) := by decide +kernel
theorem dX0_dropClosed_12 : decode cX0_dropClosed 12 = .ok (.aload_n 0, 1) := by decide +kernel
theorem dX0_dropClosed_13 : decode cX0_dropClosed 13 = .ok (.getfield 18, 3) := by decide +kernel
theorem dX0_dropClosed_16 : decode cX0_dropClosed 16 = .ok (.aload_n 0, 1) := by decide +kernel
theorem dX0_dropClosed_17 : decode cX0_dropClosed 17 = .ok (.getfield 33, 3) := by decide +kernel
theorem dX0_dropClosed_20 : decode cX0_dropClosed 20 = .ok (.aload_n 0, 1) := by decide +kernel
theorem dX0_dropClosed_21 : decode cX0_dropClosed 21 = .ok (.getfield 22, 3) := by decide +kernel
theorem dX0_dropClosed_24 : decode cX0_dropClosed 24 = .ok (.iload_n 2, 1) := by decide +kernel
theorem dX0_dropClosed_25 : decode cX0_dropClosed 25 = .ok (.iaload, 1) := by decide +kernel
theorem dX0_dropClosed_26 : decode cX0_dropClosed 26 = .ok (.invokevirtual 63, 3) := by decide +kernel
theorem dX0_dropClosed_29 : decode cX0_dropClosed 29 = .ok (.ifCond .eq 18, 3) := by decide +kernel
theorem dX0_dropClosed_32 : decode cX0_dropClosed 32 = .ok (.aload_n 0, 1) := by decide +kernel
theorem dX0_dropClosed_33 : decode cX0_dropClosed 33 = .ok (.getfield 22, 3) := by decide +kernel
theorem dX0_dropClosed_36 : decode cX0_dropClosed 36 = .ok (.iload_n 1, 1) := by decide +kernel
theorem dX0_dropClosed_37 : decode cX0_dropClosed 37 = .ok (.aload_n 0, 1) := by decide +kernel
theorem dX0_dropClosed_38 : decode cX0_dropClosed 38 = .ok (.getfield 22, 3) := by decide +kernel
theorem dX0_dropClosed_41 : decode cX0_dropClosed 41 = .ok (.iload_n 2, 1) := by decide +kernel
theorem dX0_dropClosed_42 : decode cX0_dropClosed 42 = .ok (.iaload, 1) := by decide +kernel
theorem dX0_dropClosed_43 : decode cX0_dropClosed 43 = .ok (.iastore, 1) := by decide +kernel
theorem dX0_dropClosed_44 : decode cX0_dropClosed 44 = .ok (.iinc 1 1, 3) := by decide +kernel
theorem dX0_dropClosed_47 : decode cX0_dropClosed 47 = .ok (.iinc 2 1, 3) := by decide +kernel
theorem dX0_dropClosed_50 : decode cX0_dropClosed 50 = .ok (.goto (-46), 3) := by decide +kernel
theorem dX0_dropClosed_53 : decode cX0_dropClosed 53 = .ok (.aload_n 0, 1) := by decide +kernel
theorem dX0_dropClosed_54 : decode cX0_dropClosed 54 = .ok (.iload_n 1, 1) := by decide +kernel
theorem dX0_dropClosed_55 : decode cX0_dropClosed 55 = .ok (.putfield 26, 3) := by decide +kernel
theorem dX0_dropClosed_58 : decode cX0_dropClosed 58 = .ok (.return_, 1) := by decide +kernel
theorem dX0_extend_0 : decode cX0_extend 0 = .ok (.aload_n 0, 1) := by decide +kernel
theorem dX0_extend_1 : decode cX0_extend 1 = .ok (.getfield 18, 3) := by decide +kernel
theorem dX0_extend_4 : decode cX0_extend 4 = .ok (.aload_n 1, 1) := by decide +kernel
theorem dX0_extend_5 : decode cX0_extend 5 = .ok (.aload_n 0, 1) := by decide +kernel
theorem dX0_extend_6 : decode cX0_extend 6 = .ok (.getfield 33, 3) := by decide +kernel
theorem dX0_extend_9 : decode cX0_extend 9 = .ok (.invokevirtual 56, 3) := by decide +kernel
theorem dX0_extend_12 : decode cX0_extend 12 = .ok (.aload_n 0, 1) := by decide +kernel
theorem dX0_extend_13 : decode cX0_extend 13 = .ok (.dup, 1) := by decide +kernel
theorem dX0_extend_14 : decode cX0_extend 14 = .ok (.getfield 30, 3) := by decide +kernel
theorem dX0_extend_17 : decode cX0_extend 17 = .ok (.iconst 1, 1) := by decide +kernel
theorem dX0_extend_18 : decode cX0_extend 18 = .ok (.iadd, 1) := by decide +kernel
theorem dX0_extend_19 : decode cX0_extend 19 = .ok (.putfield 30, 3) := by decide +kernel
theorem dX0_extend_22 : decode cX0_extend 22 = .ok (.aload_n 0, 1) := by decide +kernel
theorem dX0_extend_23 : decode cX0_extend 23 = .ok (.invokevirtual 60, 3) := by decide +kernel
theorem dX0_extend_26 : decode cX0_extend 26 = .ok (.aload_n 0, 1) := by decide +kernel
theorem dX0_extend_27 : decode cX0_extend 27 = .ok (.getfield 18, 3) := by decide +kernel
theorem dX0_extend_30 : decode cX0_extend 30 = .ok (.getfield 41, 3) := by decide +kernel
theorem dX0_extend_33 : decode cX0_extend 33 = .ok (.iconst 1, 1) := by decide +kernel
theorem dX0_extend_34 : decode cX0_extend 34 = .ok (.isub, 1) := by decide +kernel
theorem dX0_extend_35 : decode cX0_extend 35 = .ok (.istore_n 2, 1) := by decide +kernel
theorem dX0_extend_36 : decode cX0_extend 36 = .ok (.iconst 0, 1) := by decide +kernel
theorem dX0_extend_37 : decode cX0_extend 37 = .ok (.istore_n 3, 1) := by decide +kernel
theorem dX0_extend_38 : decode cX0_extend 38 = .ok (.iload_n 3, 1) := by decide +kernel
theorem dX0_extend_39 : decode cX0_extend 39 = .ok (.iload_n 2, 1) := by decide +kernel
theorem dX0_extend_40 : decode cX0_extend 40 = .ok (.if_icmp .gt 15, 3) := by decide +kernel
theorem dX0_extend_43 : decode cX0_extend 43 = .ok (.aload_n 0, 1) := by decide +kernel
theorem dX0_extend_44 : decode cX0_extend 44 = .ok (.iload_n 3, 1) := by decide +kernel
theorem dX0_extend_45 : decode cX0_extend 45 = .ok (.iload_n 2, 1) := by decide +kernel
theorem dX0_extend_46 : decode cX0_extend 46 = .ok (.invokevirtual 44, 3) := by decide +kernel
theorem dX0_extend_49 : decode cX0_extend 49 = .ok (.iinc 3 1, 3) := by decide +kernel
theorem dX0_extend_52 : decode cX0_extend 52 = .ok (.goto (-14), 3) := by decide +kernel
theorem dX0_extend_55 : decode cX0_extend 55 = .ok (.return_, 1) := by decide +kernel
theorem dX0_init_0 : decode cX0_init 0 = .ok (.aload_n 0, 1) := by decide +kernel
theorem dX0_init_1 : decode cX0_init 1 = .ok (.invokespecial 3, 3) := by decide +kernel
theorem dX0_init_4 : decode cX0_init 4 = .ok (.aload_n 0, 1) := by decide +kernel
theorem dX0_init_5 : decode cX0_init 5 = .ok (.iconst 0, 1) := by decide +kernel
theorem dX0_init_6 : decode cX0_init 6 = .ok (.putfield 9, 3) := by decide +kernel
theorem dX0_init_9 : decode cX0_init 9 = .ok (.aload_n 0, 1) := by decide +kernel
theorem dX0_init_10 : decode cX0_init 10 = .ok (.new 15, 3) := by decide +kernel
theorem dX0_init_13 : decode cX0_init 13 = .ok (.dup, 1) := by decide +kernel
theorem dX0_init_14 : decode cX0_init 14 = .ok (.invokespecial 17, 3) := by decide +kernel
theorem dX0_init_17 : decode cX0_init 17 = .ok (.putfield 18, 3) := by decide +kernel
theorem dX0_init_20 : decode cX0_init 20 = .ok (.aload_n 0, 1) := by decide +kernel
theorem dX0_init_21 : decode cX0_init 21 = .ok (.sipush 153, 3) := by decide +kernel
theorem dX0_init_24 : decode cX0_init 24 = .ok (.newarray .int, 2) := by decide +kernel
theorem dX0_init_26 : decode cX0_init 26 = .ok (.putfield 22, 3) := by decide +kernel
theorem dX0_init_29 : decode cX0_init 29 = .ok (.aload_n 0, 1) := by decide +kernel
theorem dX0_init_30 : decode cX0_init 30 = .ok (.iconst 0, 1) := by decide +kernel
theorem dX0_init_31 : decode cX0_init 31 = .ok (.putfield 26, 3) := by decide +kernel
theorem dX0_init_34 : decode cX0_init 34 = .ok (.aload_n 0, 1) := by decide +kernel
theorem dX0_init_35 : decode cX0_init 35 = .ok (.iconst 0, 1) := by decide +kernel
theorem dX0_init_36 : decode cX0_init 36 = .ok (.putfield 30, 3) := by decide +kernel
theorem dX0_init_39 : decode cX0_init 39 = .ok (.aload_n 0, 1) := by decide +kernel
theorem dX0_init_40 : decode cX0_init 40 = .ok (.aload_n 1, 1) := by decide +kernel
theorem dX0_init_41 : decode cX0_init 41 = .ok (.putfield 33, 3) := by decide +kernel
theorem dX0_init_44 : decode cX0_init 44 = .ok (.return_, 1) := by decide +kernel
theorem dX0_lay_0 : decode cX0_lay 0 = .ok (.aload_n 0, 1) := by decide +kernel
theorem dX0_lay_1 : decode cX0_lay 1 = .ok (.getfield 18, 3) := by decide +kernel
theorem dX0_lay_4 : decode cX0_lay 4 = .ok (.aload_n 1, 1) := by decide +kernel
theorem dX0_lay_5 : decode cX0_lay 5 = .ok (.invokevirtual 37, 3) := by decide +kernel
theorem dX0_lay_8 : decode cX0_lay 8 = .ok (.aload_n 0, 1) := by decide +kernel
theorem dX0_lay_9 : decode cX0_lay 9 = .ok (.iconst 1, 1) := by decide +kernel
theorem dX0_lay_10 : decode cX0_lay 10 = .ok (.putfield 9, 3) := by decide +kernel
theorem dX0_lay_13 : decode cX0_lay 13 = .ok (.aload_n 0, 1) := by decide +kernel
theorem dX0_lay_14 : decode cX0_lay 14 = .ok (.iconst 0, 1) := by decide +kernel
theorem dX0_lay_15 : decode cX0_lay 15 = .ok (.putfield 26, 3) := by decide +kernel
theorem dX0_lay_18 : decode cX0_lay 18 = .ok (.aload_n 0, 1) := by decide +kernel
theorem dX0_lay_19 : decode cX0_lay 19 = .ok (.iconst 0, 1) := by decide +kernel
theorem dX0_lay_20 : decode cX0_lay 20 = .ok (.putfield 30, 3) := by decide +kernel
theorem dX0_lay_23 : decode cX0_lay 23 = .ok (.iconst 0, 1) := by decide +kernel
theorem dX0_lay_24 : decode cX0_lay 24 = .ok (.istore_n 2, 1) := by decide +kernel
theorem dX0_lay_25 : decode cX0_lay 25 = .ok (.iload_n 2, 1) := by decide +kernel
theorem dX0_lay_26 : decode cX0_lay 26 = .ok (.aload_n 0, 1) := by decide +kernel
theorem dX0_lay_27 : decode cX0_lay 27 = .ok (.getfield 18, 3) := by decide +kernel
theorem dX0_lay_30 : decode cX0_lay 30 = .ok (.getfield 41, 3) := by decide +kernel
theorem dX0_lay_33 : decode cX0_lay 33 = .ok (.if_icmp .ge 34, 3) := by decide +kernel
theorem dX0_lay_36 : decode cX0_lay 36 = .ok (.iload_n 2, 1) := by decide +kernel
theorem dX0_lay_37 : decode cX0_lay 37 = .ok (.istore_n 3, 1) := by decide +kernel
theorem dX0_lay_38 : decode cX0_lay 38 = .ok (.iload_n 3, 1) := by decide +kernel
theorem dX0_lay_39 : decode cX0_lay 39 = .ok (.aload_n 0, 1) := by decide +kernel
theorem dX0_lay_40 : decode cX0_lay 40 = .ok (.getfield 18, 3) := by decide +kernel
theorem dX0_lay_43 : decode cX0_lay 43 = .ok (.getfield 41, 3) := by decide +kernel
theorem dX0_lay_46 : decode cX0_lay 46 = .ok (.if_icmp .ge 15, 3) := by decide +kernel
theorem dX0_lay_49 : decode cX0_lay 49 = .ok (.aload_n 0, 1) := by decide +kernel
theorem dX0_lay_50 : decode cX0_lay 50 = .ok (.iload_n 2, 1) := by decide +kernel
theorem dX0_lay_51 : decode cX0_lay 51 = .ok (.iload_n 3, 1) := by decide +kernel
theorem dX0_lay_52 : decode cX0_lay 52 = .ok (.invokevirtual 44, 3) := by decide +kernel
theorem dX0_lay_55 : decode cX0_lay 55 = .ok (.iinc 3 1, 3) := by decide +kernel
theorem dX0_lay_58 : decode cX0_lay 58 = .ok (.goto (-20), 3) := by decide +kernel
theorem dX0_lay_61 : decode cX0_lay 61 = .ok (.iinc 2 1, 3) := by decide +kernel
theorem dX0_lay_64 : decode cX0_lay 64 = .ok (.goto (-39), 3) := by decide +kernel
theorem dX0_lay_67 : decode cX0_lay 67 = .ok (.return_, 1) := by decide +kernel
theorem dX0_rotate_0 : decode cX0_rotate 0 = .ok (.aload_n 0, 1) := by decide +kernel
theorem dX0_rotate_1 : decode cX0_rotate 1 = .ok (.getfield 22, 3) := by decide +kernel
theorem dX0_rotate_4 : decode cX0_rotate 4 = .ok (.iconst 0, 1) := by decide +kernel
theorem dX0_rotate_5 : decode cX0_rotate 5 = .ok (.iaload, 1) := by decide +kernel
theorem dX0_rotate_6 : decode cX0_rotate 6 = .ok (.istore_n 1, 1) := by decide +kernel
theorem dX0_rotate_7 : decode cX0_rotate 7 = .ok (.iconst 1, 1) := by decide +kernel
theorem dX0_rotate_8 : decode cX0_rotate 8 = .ok (.istore_n 2, 1) := by decide +kernel
theorem dX0_rotate_9 : decode cX0_rotate 9 = .ok (.iload_n 2, 1) := by decide +kernel
theorem dX0_rotate_10 : decode cX0_rotate 10 = .ok (.aload_n 0, 1) := by decide +kernel
theorem dX0_rotate_11 : decode cX0_rotate 11 = .ok (.getfield 26, 3) := by decide +kernel
theorem dX0_rotate_14 : decode cX0_rotate 14 = .ok (.if_icmp .ge 23, 3) := by decide +kernel
theorem dX0_rotate_17 : decode cX0_rotate 17 = .ok (.aload_n 0, 1) := by decide +kernel
theorem dX0_rotate_18 : decode cX0_rotate 18 = .ok (.getfield 22, 3) := by decide +kernel
theorem dX0_rotate_21 : decode cX0_rotate 21 = .ok (.iload_n 2, 1) := by decide +kernel
theorem dX0_rotate_22 : decode cX0_rotate 22 = .ok (.iconst 1, 1) := by decide +kernel
theorem dX0_rotate_23 : decode cX0_rotate 23 = .ok (.isub, 1) := by decide +kernel
theorem dX0_rotate_24 : decode cX0_rotate 24 = .ok (.aload_n 0, 1) := by decide +kernel
theorem dX0_rotate_25 : decode cX0_rotate 25 = .ok (.getfield 22, 3) := by decide +kernel
theorem dX0_rotate_28 : decode cX0_rotate 28 = .ok (.iload_n 2, 1) := by decide +kernel
theorem dX0_rotate_29 : decode cX0_rotate 29 = .ok (.iaload, 1) := by decide +kernel
theorem dX0_rotate_30 : decode cX0_rotate 30 = .ok (.iastore, 1) := by decide +kernel
theorem dX0_rotate_31 : decode cX0_rotate 31 = .ok (.iinc 2 1, 3) := by decide +kernel
theorem dX0_rotate_34 : decode cX0_rotate 34 = .ok (.goto (-25), 3) := by decide +kernel
theorem dX0_rotate_37 : decode cX0_rotate 37 = .ok (.aload_n 0, 1) := by decide +kernel
theorem dX0_rotate_38 : decode cX0_rotate 38 = .ok (.getfield 22, 3) := by decide +kernel
theorem dX0_rotate_41 : decode cX0_rotate 41 = .ok (.aload_n 0, 1) := by decide +kernel
theorem dX0_rotate_42 : decode cX0_rotate 42 = .ok (.getfield 26, 3) := by decide +kernel
theorem dX0_rotate_45 : decode cX0_rotate 45 = .ok (.iconst 1, 1) := by decide +kernel
theorem dX0_rotate_46 : decode cX0_rotate 46 = .ok (.isub, 1) := by decide +kernel
theorem dX0_rotate_47 : decode cX0_rotate 47 = .ok (.iload_n 1, 1) := by decide +kernel
theorem dX0_rotate_48 : decode cX0_rotate 48 = .ok (.iastore, 1) := by decide +kernel
theorem dX0_rotate_49 : decode cX0_rotate 49 = .ok (.return_, 1) := by decide +kernel
theorem dX1_init_0 : decode cX1_init 0 = .ok (.aload_n 0, 1) := by decide +kernel
theorem dX1_init_1 : decode cX1_init 1 = .ok (.invokespecial 3, 3) := by decide +kernel
theorem dX1_init_4 : decode cX1_init 4 = .ok (.aload_n 0, 1) := by decide +kernel
theorem dX1_init_5 : decode cX1_init 5 = .ok (.new 9, 3) := by decide +kernel
theorem dX1_init_8 : decode cX1_init 8 = .ok (.dup, 1) := by decide +kernel
theorem dX1_init_9 : decode cX1_init 9 = .ok (.invokespecial 11, 3) := by decide +kernel
theorem dX1_init_12 : decode cX1_init 12 = .ok (.putfield 12, 3) := by decide +kernel
theorem dX1_init_15 : decode cX1_init 15 = .ok (.aload_n 0, 1) := by decide +kernel
theorem dX1_init_16 : decode cX1_init 16 = .ok (.bipush 6, 2) := by decide +kernel
theorem dX1_init_18 : decode cX1_init 18 = .ok (.newarray .int, 2) := by decide +kernel
theorem dX1_init_20 : decode cX1_init 20 = .ok (.putfield 18, 3) := by decide +kernel
theorem dX1_init_23 : decode cX1_init 23 = .ok (.aload_n 0, 1) := by decide +kernel
theorem dX1_init_24 : decode cX1_init 24 = .ok (.aload_n 1, 1) := by decide +kernel
theorem dX1_init_25 : decode cX1_init 25 = .ok (.putfield 22, 3) := by decide +kernel
theorem dX1_init_28 : decode cX1_init 28 = .ok (.aload_n 0, 1) := by decide +kernel
theorem dX1_init_29 : decode cX1_init 29 = .ok (.aload_n 2, 1) := by decide +kernel
theorem dX1_init_30 : decode cX1_init 30 = .ok (.putfield 26, 3) := by decide +kernel
theorem dX1_init_33 : decode cX1_init 33 = .ok (.aload_n 0, 1) := by decide +kernel
theorem dX1_init_34 : decode cX1_init 34 = .ok (.new 30, 3) := by decide +kernel
theorem dX1_init_37 : decode cX1_init 37 = .ok (.dup, 1) := by decide +kernel
theorem dX1_init_38 : decode cX1_init 38 = .ok (.aload_n 1, 1) := by decide +kernel
theorem dX1_init_39 : decode cX1_init 39 = .ok (.getfield 32, 3) := by decide +kernel
theorem dX1_init_42 : decode cX1_init 42 = .ok (.aload_n 0, 1) := by decide +kernel
theorem dX1_init_43 : decode cX1_init 43 = .ok (.getfield 12, 3) := by decide +kernel
theorem dX1_init_46 : decode cX1_init 46 = .ok (.invokespecial 38, 3) := by decide +kernel
theorem dX1_init_49 : decode cX1_init 49 = .ok (.putfield 41, 3) := by decide +kernel
theorem dX1_init_52 : decode cX1_init 52 = .ok (.return_, 1) := by decide +kernel
theorem dX1_isAllowed_0 : decode cX1_isAllowed 0 = .ok (.aload_n 0, 1) := by decide +kernel
theorem dX1_isAllowed_1 : decode cX1_isAllowed 1 = .ok (.getfield 12, 3) := by decide +kernel
theorem dX1_isAllowed_4 : decode cX1_isAllowed 4 = .ok (.aload_n 1, 1) := by decide +kernel
theorem dX1_isAllowed_5 : decode cX1_isAllowed 5 = .ok (.aload_n 0, 1) := by decide +kernel
theorem dX1_isAllowed_6 : decode cX1_isAllowed 6 = .ok (.getfield 22, 3) := by decide +kernel
theorem dX1_isAllowed_9 : decode cX1_isAllowed 9 = .ok (.getfield 32, 3) := by decide +kernel
theorem dX1_isAllowed_12 : decode cX1_isAllowed 12 = .ok (.invokevirtual 84, 3) := by decide +kernel
theorem dX1_isAllowed_15 : decode cX1_isAllowed 15 = .ok (.aload_n 0, 1) := by decide +kernel
theorem dX1_isAllowed_16 : decode cX1_isAllowed 16 = .ok (.getfield 26, 3) := by decide +kernel
theorem dX1_isAllowed_19 : decode cX1_isAllowed 19 = .ok (.aload_n 0, 1) := by decide +kernel
theorem dX1_isAllowed_20 : decode cX1_isAllowed 20 = .ok (.getfield 12, 3) := by decide +kernel
theorem dX1_isAllowed_23 : decode cX1_isAllowed 23 = .ok (.invokevirtual 88, 3) := by decide +kernel
theorem dX1_isAllowed_26 : decode cX1_isAllowed 26 = .ok (.ifCond .ne 7, 3) := by decide +kernel
theorem dX1_isAllowed_29 : decode cX1_isAllowed 29 = .ok (.iconst 1, 1) := by decide +kernel
theorem dX1_isAllowed_30 : decode cX1_isAllowed 30 = .ok (.goto 4, 3) := by decide +kernel
theorem dX1_isAllowed_33 : decode cX1_isAllowed 33 = .ok (.iconst 0, 1) := by decide +kernel
theorem dX1_isAllowed_34 : decode cX1_isAllowed 34 = .ok (.istore_n 2, 1) := by decide +kernel
theorem dX1_isAllowed_35 : decode cX1_isAllowed 35 = .ok (.aload_n 0, 1) := by decide +kernel
theorem dX1_isAllowed_36 : decode cX1_isAllowed 36 = .ok (.getfield 12, 3) := by decide +kernel
theorem dX1_isAllowed_39 : decode cX1_isAllowed 39 = .ok (.dup, 1) := by decide +kernel
theorem dX1_isAllowed_40 : decode cX1_isAllowed 40 = .ok (.getfield 94, 3) := by decide +kernel
theorem dX1_isAllowed_43 : decode cX1_isAllowed 43 = .ok (.iconst 1, 1) := by decide +kernel
theorem dX1_isAllowed_44 : decode cX1_isAllowed 44 = .ok (.isub, 1) := by decide +kernel
theorem dX1_isAllowed_45 : decode cX1_isAllowed 45 = .ok (.putfield 94, 3) := by decide +kernel
theorem dX1_isAllowed_48 : decode cX1_isAllowed 48 = .ok (.iload_n 2, 1) := by decide +kernel
theorem dX1_isAllowed_49 : decode cX1_isAllowed 49 = .ok (.ireturn, 1) := by decide +kernel
theorem dX1_isFilledBy_0 : decode cX1_isFilledBy 0 = .ok (.aload_n 1, 1) := by decide +kernel
theorem dX1_isFilledBy_1 : decode cX1_isFilledBy 1 = .ok (.aload_n 0, 1) := by decide +kernel
theorem dX1_isFilledBy_2 : decode cX1_isFilledBy 2 = .ok (.getfield 22, 3) := by decide +kernel
theorem dX1_isFilledBy_5 : decode cX1_isFilledBy 5 = .ok (.getfield 32, 3) := by decide +kernel
theorem dX1_isFilledBy_8 : decode cX1_isFilledBy 8 = .ok (.iload_n 2, 1) := by decide +kernel
theorem dX1_isFilledBy_9 : decode cX1_isFilledBy 9 = .ok (.invokevirtual 95, 3) := by decide +kernel
theorem dX1_isFilledBy_12 : decode cX1_isFilledBy 12 = .ok (.ifCond .eq 15, 3) := by decide +kernel
theorem dX1_isFilledBy_15 : decode cX1_isFilledBy 15 = .ok (.aload_n 0, 1) := by decide +kernel
theorem dX1_isFilledBy_16 : decode cX1_isFilledBy 16 = .ok (.iload_n 3, 1) := by decide +kernel
theorem dX1_isFilledBy_17 : decode cX1_isFilledBy 17 = .ok (.aload_n 1, 1) := by decide +kernel
theorem dX1_isFilledBy_18 : decode cX1_isFilledBy 18 = .ok (.getfield 94, 3) := by decide +kernel
theorem dX1_isFilledBy_21 : decode cX1_isFilledBy 21 = .ok (.invokevirtual 99, 3) := by decide +kernel
theorem dX1_isFilledBy_24 : decode cX1_isFilledBy 24 = .ok (.ifCond .ne 5, 3) := by decide +kernel
theorem dX1_isFilledBy_27 : decode cX1_isFilledBy 27 = .ok (.iconst 0, 1) := by decide +kernel
theorem dX1_isFilledBy_28 : decode cX1_isFilledBy 28 = .ok (.ireturn, 1) := by decide +kernel
theorem dX1_isFilledBy_29 : decode cX1_isFilledBy 29 = .ok (.aload_n 0, 1) := by decide +kernel
theorem dX1_isFilledBy_30 : decode cX1_isFilledBy 30 = .ok (.getfield 18, 3) := by decide +kernel
theorem dX1_isFilledBy_33 : decode cX1_isFilledBy 33 = .ok (.iload_n 2, 1) := by decide +kernel
theorem dX1_isFilledBy_34 : decode cX1_isFilledBy 34 = .ok (.sipush 1000, 3) := by decide +kernel
theorem dX1_isFilledBy_37 : decode cX1_isFilledBy 37 = .ok (.idiv, 1) := by decide +kernel
theorem dX1_isFilledBy_38 : decode cX1_isFilledBy 38 = .ok (.iaload, 1) := by decide +kernel
theorem dX1_isFilledBy_39 : decode cX1_isFilledBy 39 = .ok (.iload_n 2, 1) := by decide +kernel
theorem dX1_isFilledBy_40 : decode cX1_isFilledBy 40 = .ok (.bipush 10, 2) := by decide +kernel
theorem dX1_isFilledBy_42 : decode cX1_isFilledBy 42 = .ok (.idiv, 1) := by decide +kernel
theorem dX1_isFilledBy_43 : decode cX1_isFilledBy 43 = .ok (.bipush 10, 2) := by decide +kernel
theorem dX1_isFilledBy_45 : decode cX1_isFilledBy 45 = .ok (.irem, 1) := by decide +kernel
theorem dX1_isFilledBy_46 : decode cX1_isFilledBy 46 = .ok (.if_icmp .ne 7, 3) := by decide +kernel
theorem dX1_isFilledBy_49 : decode cX1_isFilledBy 49 = .ok (.iconst 1, 1) := by decide +kernel
theorem dX1_isFilledBy_50 : decode cX1_isFilledBy 50 = .ok (.goto 4, 3) := by decide +kernel
theorem dX1_isFilledBy_53 : decode cX1_isFilledBy 53 = .ok (.iconst 0, 1) := by decide +kernel
theorem dX1_isFilledBy_54 : decode cX1_isFilledBy 54 = .ok (.istore 4, 2) := by decide +kernel
theorem dX1_isFilledBy_56 : decode cX1_isFilledBy 56 = .ok (.iload 4, 2) := by decide +kernel
theorem dX1_isFilledBy_58 : decode cX1_isFilledBy 58 = .ok (.ifCond .eq 37, 3) := by decide +kernel
theorem dX1_isFilledBy_61 : decode cX1_isFilledBy 61 = .ok (.aload_n 0, 1) := by decide +kernel
theorem dX1_isFilledBy_62 : decode cX1_isFilledBy 62 = .ok (.getfield 18, 3) := by decide +kernel
theorem dX1_isFilledBy_65 : decode cX1_isFilledBy 65 = .ok (.iload_n 2, 1) := by decide +kernel
theorem dX1_isFilledBy_66 : decode cX1_isFilledBy 66 = .ok (.bipush 100, 2) := by decide +kernel
theorem dX1_isFilledBy_68 : decode cX1_isFilledBy 68 = .ok (.idiv, 1) := by decide +kernel
theorem dX1_isFilledBy_69 : decode cX1_isFilledBy 69 = .ok (.bipush 10, 2) := by decide +kernel
theorem dX1_isFilledBy_71 : decode cX1_isFilledBy 71 = .ok (.irem, 1) := by decide +kernel
theorem dX1_isFilledBy_72 : decode cX1_isFilledBy 72 = .ok (.iaload, 1) := by decide +kernel
theorem dX1_isFilledBy_73 : decode cX1_isFilledBy 73 = .ok (.aload_n 0, 1) := by decide +kernel
theorem dX1_isFilledBy_74 : decode cX1_isFilledBy 74 = .ok (.getfield 22, 3) := by decide +kernel
theorem dX1_isFilledBy_77 : decode cX1_isFilledBy 77 = .ok (.getfield 32, 3) := by decide +kernel
theorem dX1_isFilledBy_80 : decode cX1_isFilledBy 80 = .ok (.getfield 62, 3) := by decide +kernel
theorem dX1_isFilledBy_83 : decode cX1_isFilledBy 83 = .ok (.iload_n 2, 1) := by decide +kernel
theorem dX1_isFilledBy_84 : decode cX1_isFilledBy 84 = .ok (.bipush 10, 2) := by decide +kernel
theorem dX1_isFilledBy_86 : decode cX1_isFilledBy 86 = .ok (.irem, 1) := by decide +kernel
theorem dX1_isFilledBy_87 : decode cX1_isFilledBy 87 = .ok (.iaload, 1) := by decide +kernel
theorem dX1_isFilledBy_88 : decode cX1_isFilledBy 88 = .ok (.if_icmp .ne 7, 3) := by decide +kernel
theorem dX1_isFilledBy_91 : decode cX1_isFilledBy 91 = .ok (.iconst 1, 1) := by decide +kernel
theorem dX1_isFilledBy_92 : decode cX1_isFilledBy 92 = .ok (.goto 4, 3) := by decide +kernel
theorem dX1_isFilledBy_95 : decode cX1_isFilledBy 95 = .ok (.iconst 0, 1) := by decide +kernel
theorem dX1_isFilledBy_96 : decode cX1_isFilledBy 96 = .ok (.istore 4, 2) := by decide +kernel
theorem dX1_isFilledBy_98 : decode cX1_isFilledBy 98 = .ok (.aload_n 0, 1) := by decide +kernel
theorem dX1_isFilledBy_99 : decode cX1_isFilledBy 99 = .ok (.getfield 12, 3) := by decide +kernel
theorem dX1_isFilledBy_102 : decode cX1_isFilledBy 102 = .ok (.aload_n 1, 1) := by decide +kernel
theorem dX1_isFilledBy_103 : decode cX1_isFilledBy 103 = .ok (.invokevirtual 51, 3) := by decide +kernel
theorem dX1_isFilledBy_106 : decode cX1_isFilledBy 106 = .ok (.aload_n 0, 1) := by decide +kernel
theorem dX1_isFilledBy_107 : decode cX1_isFilledBy 107 = .ok (.getfield 12, 3) := by decide +kernel
theorem dX1_isFilledBy_110 : decode cX1_isFilledBy 110 = .ok (.aload_n 0, 1) := by decide +kernel
theorem dX1_isFilledBy_111 : decode cX1_isFilledBy 111 = .ok (.getfield 18, 3) := by decide +kernel
theorem dX1_isFilledBy_114 : decode cX1_isFilledBy 114 = .ok (.aload_n 0, 1) := by decide +kernel
theorem dX1_isFilledBy_115 : decode cX1_isFilledBy 115 = .ok (.getfield 22, 3) := by decide +kernel
theorem dX1_isFilledBy_118 : decode cX1_isFilledBy 118 = .ok (.getfield 32, 3) := by decide +kernel
theorem dX1_isFilledBy_121 : decode cX1_isFilledBy 121 = .ok (.invokevirtual 84, 3) := by decide +kernel
theorem dX1_isFilledBy_124 : decode cX1_isFilledBy 124 = .ok (.iload 4, 2) := by decide +kernel
theorem dX1_isFilledBy_126 : decode cX1_isFilledBy 126 = .ok (.ifCond .eq 40, 3) := by decide +kernel
theorem dX1_isFilledBy_129 : decode cX1_isFilledBy 129 = .ok (.aload_n 0, 1) := by decide +kernel
theorem dX1_isFilledBy_130 : decode cX1_isFilledBy 130 = .ok (.getfield 12, 3) := by decide +kernel
theorem dX1_isFilledBy_133 : decode cX1_isFilledBy 133 = .ok (.aload_n 0, 1) := by decide +kernel
theorem dX1_isFilledBy_134 : decode cX1_isFilledBy 134 = .ok (.getfield 22, 3) := by decide +kernel
theorem dX1_isFilledBy_137 : decode cX1_isFilledBy 137 = .ok (.getfield 32, 3) := by decide +kernel
theorem dX1_isFilledBy_140 : decode cX1_isFilledBy 140 = .ok (.invokevirtual 103, 3) := by decide +kernel
theorem dX1_isFilledBy_143 : decode cX1_isFilledBy 143 = .ok (.bipush (-5), 2) := by decide +kernel
theorem dX1_isFilledBy_145 : decode cX1_isFilledBy 145 = .ok (.if_icmp .ne 21, 3) := by decide +kernel
theorem dX1_isFilledBy_148 : decode cX1_isFilledBy 148 = .ok (.aload_n 0, 1) := by decide +kernel
theorem dX1_isFilledBy_149 : decode cX1_isFilledBy 149 = .ok (.getfield 26, 3) := by decide +kernel
theorem dX1_isFilledBy_152 : decode cX1_isFilledBy 152 = .ok (.aload_n 0, 1) := by decide +kernel
theorem dX1_isFilledBy_153 : decode cX1_isFilledBy 153 = .ok (.getfield 12, 3) := by decide +kernel
theorem dX1_isFilledBy_156 : decode cX1_isFilledBy 156 = .ok (.invokevirtual 88, 3) := by decide +kernel
theorem dX1_isFilledBy_159 : decode cX1_isFilledBy 159 = .ok (.ifCond .ne 7, 3) := by decide +kernel
theorem dX1_isFilledBy_162 : decode cX1_isFilledBy 162 = .ok (.iconst 1, 1) := by decide +kernel
theorem dX1_isFilledBy_163 : decode cX1_isFilledBy 163 = .ok (.goto 4, 3) := by decide +kernel
theorem dX1_isFilledBy_166 : decode cX1_isFilledBy 166 = .ok (.iconst 0, 1) := by decide +kernel
theorem dX1_isFilledBy_167 : decode cX1_isFilledBy 167 = .ok (.ireturn, 1) := by decide +kernel
theorem dX1_spread_0 : decode cX1_spread 0 = .ok (.iload_n 1, 1) := by decide +kernel
theorem dX1_spread_1 : decode cX1_spread 1 = .ok (.istore_n 3, 1) := by decide +kernel
theorem dX1_spread_2 : decode cX1_spread 2 = .ok (.iconst 0, 1) := by decide +kernel
theorem dX1_spread_3 : decode cX1_spread 3 = .ok (.istore 4, 2) := by decide +kernel
theorem dX1_spread_5 : decode cX1_spread 5 = .ok (.iload 4, 2) := by decide +kernel
theorem dX1_spread_7 : decode cX1_spread 7 = .ok (.iload_n 2, 1) := by decide +kernel
theorem dX1_spread_8 : decode cX1_spread 8 = .ok (.if_icmp .ge 58, 3) := by decide +kernel
theorem dX1_spread_11 : decode cX1_spread 11 = .ok (.aload_n 0, 1) := by decide +kernel
theorem dX1_spread_12 : decode cX1_spread 12 = .ok (.getfield 18, 3) := by decide +kernel
theorem dX1_spread_15 : decode cX1_spread 15 = .ok (.iload 4, 2) := by decide +kernel
theorem dX1_spread_17 : decode cX1_spread 17 = .ok (.iload_n 3, 1) := by decide +kernel
theorem dX1_spread_18 : decode cX1_spread 18 = .ok (.bipush 10, 2) := by decide +kernel
theorem dX1_spread_20 : decode cX1_spread 20 = .ok (.irem, 1) := by decide +kernel
theorem dX1_spread_21 : decode cX1_spread 21 = .ok (.iastore, 1) := by decide +kernel
theorem dX1_spread_22 : decode cX1_spread 22 = .ok (.aload_n 0, 1) := by decide +kernel
theorem dX1_spread_23 : decode cX1_spread 23 = .ok (.getfield 18, 3) := by decide +kernel
theorem dX1_spread_26 : decode cX1_spread 26 = .ok (.iload 4, 2) := by decide +kernel
theorem dX1_spread_28 : decode cX1_spread 28 = .ok (.iaload, 1) := by decide +kernel
theorem dX1_spread_29 : decode cX1_spread 29 = .ok (.iconst 1, 1) := by decide +kernel
theorem dX1_spread_30 : decode cX1_spread 30 = .ok (.if_icmp .lt 23, 3) := by decide +kernel
theorem dX1_spread_33 : decode cX1_spread 33 = .ok (.aload_n 0, 1) := by decide +kernel
theorem dX1_spread_34 : decode cX1_spread 34 = .ok (.getfield 18, 3) := by decide +kernel
theorem dX1_spread_37 : decode cX1_spread 37 = .ok (.iload 4, 2) := by decide +kernel
theorem dX1_spread_39 : decode cX1_spread 39 = .ok (.iaload, 1) := by decide +kernel
theorem dX1_spread_40 : decode cX1_spread 40 = .ok (.aload_n 0, 1) := by decide +kernel
theorem dX1_spread_41 : decode cX1_spread 41 = .ok (.getfield 22, 3) := by decide +kernel
theorem dX1_spread_44 : decode cX1_spread 44 = .ok (.getfield 32, 3) := by decide +kernel
theorem dX1_spread_47 : decode cX1_spread 47 = .ok (.getfield 45, 3) := by decide +kernel
theorem dX1_spread_50 : decode cX1_spread 50 = .ok (.if_icmp .lt 5, 3) := by decide +kernel
theorem dX1_spread_53 : decode cX1_spread 53 = .ok (.iconst 0, 1) := by decide +kernel
theorem dX1_spread_54 : decode cX1_spread 54 = .ok (.ireturn, 1) := by decide +kernel
theorem dX1_spread_55 : decode cX1_spread 55 = .ok (.iload_n 3, 1) := by decide +kernel
theorem dX1_spread_56 : decode cX1_spread 56 = .ok (.bipush 10, 2) := by decide +kernel
theorem dX1_spread_58 : decode cX1_spread 58 = .ok (.idiv, 1) := by decide +kernel
theorem dX1_spread_59 : decode cX1_spread 59 = .ok (.istore_n 3, 1) := by decide +kernel
theorem dX1_spread_60 : decode cX1_spread 60 = .ok (.iinc 4 1, 3) := by decide +kernel
theorem dX1_spread_63 : decode cX1_spread 63 = .ok (.goto (-58), 3) := by decide +kernel
theorem dX1_spread_66 : decode cX1_spread 66 = .ok (.iload_n 3, 1) := by decide +kernel
theorem dX1_spread_67 : decode cX1_spread 67 = .ok (.ifCond .ne 7, 3) := by decide +kernel
theorem dX1_spread_70 : decode cX1_spread 70 = .ok (.iconst 1, 1) := by decide +kernel
theorem dX1_spread_71 : decode cX1_spread 71 = .ok (.goto 4, 3) := by decide +kernel
theorem dX1_spread_74 : decode cX1_spread 74 = .ok (.iconst 0, 1) := by decide +kernel
theorem dX1_spread_75 : decode cX1_spread 75 = .ok (.ireturn, 1) := by decide +kernel
theorem dX1_way_0 : decode cX1_way 0 = .ok (.aload_n 0, 1) := by decide +kernel
theorem dX1_way_1 : decode cX1_way 1 = .ok (.getfield 12, 3) := by decide +kernel
theorem dX1_way_4 : decode cX1_way 4 = .ok (.aload_n 1, 1) := by decide +kernel
theorem dX1_way_5 : decode cX1_way 5 = .ok (.invokevirtual 51, 3) := by decide +kernel
theorem dX1_way_8 : decode cX1_way 8 = .ok (.aload_n 0, 1) := by decide +kernel
theorem dX1_way_9 : decode cX1_way 9 = .ok (.getfield 41, 3) := by decide +kernel
theorem dX1_way_12 : decode cX1_way 12 = .ok (.invokevirtual 55, 3) := by decide +kernel
theorem dX1_way_15 : decode cX1_way 15 = .ok (.aload_n 0, 1) := by decide +kernel
theorem dX1_way_16 : decode cX1_way 16 = .ok (.getfield 41, 3) := by decide +kernel
theorem dX1_way_19 : decode cX1_way 19 = .ok (.iload_n 2, 1) := by decide +kernel
theorem dX1_way_20 : decode cX1_way 20 = .ok (.sipush 1000, 3) := by decide +kernel
theorem dX1_way_23 : decode cX1_way 23 = .ok (.idiv, 1) := by decide +kernel
theorem dX1_way_24 : decode cX1_way 24 = .ok (.iload_n 2, 1) := by decide +kernel
theorem dX1_way_25 : decode cX1_way 25 = .ok (.bipush 10, 2) := by decide +kernel
theorem dX1_way_27 : decode cX1_way 27 = .ok (.idiv, 1) := by decide +kernel
theorem dX1_way_28 : decode cX1_way 28 = .ok (.bipush 10, 2) := by decide +kernel
theorem dX1_way_30 : decode cX1_way 30 = .ok (.irem, 1) := by decide +kernel
theorem dX1_way_31 : decode cX1_way 31 = .ok (.invokevirtual 58, 3) := by decide +kernel
theorem dX1_way_34 : decode cX1_way 34 = .ok (.aload_n 0, 1) := by decide +kernel
theorem dX1_way_35 : decode cX1_way 35 = .ok (.getfield 41, 3) := by decide +kernel
theorem dX1_way_38 : decode cX1_way 38 = .ok (.iload_n 2, 1) := by decide +kernel
theorem dX1_way_39 : decode cX1_way 39 = .ok (.bipush 100, 2) := by decide +kernel
theorem dX1_way_41 : decode cX1_way 41 = .ok (.idiv, 1) := by decide +kernel
theorem dX1_way_42 : decode cX1_way 42 = .ok (.bipush 10, 2) := by decide +kernel
theorem dX1_way_44 : decode cX1_way 44 = .ok (.irem, 1) := by decide +kernel
theorem dX1_way_45 : decode cX1_way 45 = .ok (.aload_n 0, 1) := by decide +kernel
theorem dX1_way_46 : decode cX1_way 46 = .ok (.getfield 22, 3) := by decide +kernel
theorem dX1_way_49 : decode cX1_way 49 = .ok (.getfield 32, 3) := by decide +kernel
theorem dX1_way_52 : decode cX1_way 52 = .ok (.getfield 62, 3) := by decide +kernel
theorem dX1_way_55 : decode cX1_way 55 = .ok (.iload_n 2, 1) := by decide +kernel
theorem dX1_way_56 : decode cX1_way 56 = .ok (.bipush 10, 2) := by decide +kernel
theorem dX1_way_58 : decode cX1_way 58 = .ok (.irem, 1) := by decide +kernel
theorem dX1_way_59 : decode cX1_way 59 = .ok (.iaload, 1) := by decide +kernel
theorem dX1_way_60 : decode cX1_way 60 = .ok (.invokevirtual 58, 3) := by decide +kernel
theorem dX1_way_63 : decode cX1_way 63 = .ok (.iconst 0, 1) := by decide +kernel
theorem dX1_way_64 : decode cX1_way 64 = .ok (.istore 4, 2) := by decide +kernel
theorem dX1_way_66 : decode cX1_way 66 = .ok (.aload_n 0, 1) := by decide +kernel
theorem dX1_way_67 : decode cX1_way 67 = .ok (.getfield 41, 3) := by decide +kernel
theorem dX1_way_70 : decode cX1_way 70 = .ok (.invokevirtual 65, 3) := by decide +kernel
theorem dX1_way_73 : decode cX1_way 73 = .ok (.istore 5, 2) := by decide +kernel
theorem dX1_way_75 : decode cX1_way 75 = .ok (.iconst 0, 1) := by decide +kernel
theorem dX1_way_76 : decode cX1_way 76 = .ok (.istore 6, 2) := by decide +kernel
theorem dX1_way_78 : decode cX1_way 78 = .ok (.iload 6, 2) := by decide +kernel
theorem dX1_way_80 : decode cX1_way 80 = .ok (.ldc 69, 2) := by decide +kernel
theorem dX1_way_82 : decode cX1_way 82 = .ok (.if_icmp .ge 55, 3) := by decide +kernel
theorem dX1_way_85 : decode cX1_way 85 = .ok (.iload 5, 2) := by decide +kernel
theorem dX1_way_87 : decode cX1_way 87 = .ok (.ifCond .eq 50, 3) := by decide +kernel
theorem dX1_way_90 : decode cX1_way 90 = .ok (.aload_n 0, 1) := by decide +kernel
theorem dX1_way_91 : decode cX1_way 91 = .ok (.aload_n 0, 1) := by decide +kernel
theorem dX1_way_92 : decode cX1_way 92 = .ok (.getfield 41, 3) := by decide +kernel
theorem dX1_way_95 : decode cX1_way 95 = .ok (.getfield 70, 3) := by decide +kernel
theorem dX1_way_98 : decode cX1_way 98 = .ok (.invokevirtual 73, 3) := by decide +kernel
theorem dX1_way_101 : decode cX1_way 101 = .ok (.ifCond .eq 21, 3) := by decide +kernel
theorem dX1_way_104 : decode cX1_way 104 = .ok (.iload 4, 2) := by decide +kernel
theorem dX1_way_106 : decode cX1_way 106 = .ok (.iload_n 3, 1) := by decide +kernel
theorem dX1_way_107 : decode cX1_way 107 = .ok (.if_icmp .ne 12, 3) := by decide +kernel
theorem dX1_way_110 : decode cX1_way 110 = .ok (.aload_n 0, 1) := by decide +kernel
theorem dX1_way_111 : decode cX1_way 111 = .ok (.getfield 41, 3) := by decide +kernel
theorem dX1_way_114 : decode cX1_way 114 = .ok (.iconst 0, 1) := by decide +kernel
theorem dX1_way_115 : decode cX1_way 115 = .ok (.invokevirtual 77, 3) := by decide +kernel
theorem dX1_way_118 : decode cX1_way 118 = .ok (.ireturn, 1) := by decide +kernel
theorem dX1_way_119 : decode cX1_way 119 = .ok (.iinc 4 1, 3) := by decide +kernel
theorem dX1_way_122 : decode cX1_way 122 = .ok (.aload_n 0, 1) := by decide +kernel
theorem dX1_way_123 : decode cX1_way 123 = .ok (.getfield 41, 3) := by decide +kernel
theorem dX1_way_126 : decode cX1_way 126 = .ok (.invokevirtual 81, 3) := by decide +kernel
theorem dX1_way_129 : decode cX1_way 129 = .ok (.istore 5, 2) := by decide +kernel
theorem dX1_way_131 : decode cX1_way 131 = .ok (.iinc 6 1, 3) := by decide +kernel
theorem dX1_way_134 : decode cX1_way 134 = .ok (.goto (-56), 3) := by decide +kernel
theorem dX1_way_137 : decode cX1_way 137 = .ok (.iload_n 3, 1) := by decide +kernel
theorem dX1_way_138 : decode cX1_way 138 = .ok (.iconst (-1), 1) := by decide +kernel
theorem dX1_way_139 : decode cX1_way 139 = .ok (.if_icmp .ne 8, 3) := by decide +kernel
theorem dX1_way_142 : decode cX1_way 142 = .ok (.iload 4, 2) := by decide +kernel
theorem dX1_way_144 : decode cX1_way 144 = .ok (.goto 4, 3) := by decide +kernel
theorem dX1_way_147 : decode cX1_way 147 = .ok (.iconst (-1), 1) := by decide +kernel
theorem dX1_way_148 : decode cX1_way 148 = .ok (.ireturn, 1) := by decide +kernel
theorem dX10_digits_0 : decode cX10_digits 0 = .ok (.iconst 0, 1) := by decide +kernel
theorem dX10_digits_1 : decode cX10_digits 1 = .ok (.istore_n 2, 1) := by decide +kernel
theorem dX10_digits_2 : decode cX10_digits 2 = .ok (.aload_n 0, 1) := by decide +kernel
theorem dX10_digits_3 : decode cX10_digits 3 = .ok (.getfield 9, 3) := by decide +kernel
theorem dX10_digits_6 : decode cX10_digits 6 = .ok (.iconst 1, 1) := by decide +kernel
theorem dX10_digits_7 : decode cX10_digits 7 = .ok (.isub, 1) := by decide +kernel
theorem dX10_digits_8 : decode cX10_digits 8 = .ok (.istore_n 3, 1) := by decide +kernel
theorem dX10_digits_9 : decode cX10_digits 9 = .ok (.iload_n 3, 1) := by decide +kernel
theorem dX10_digits_10 : decode cX10_digits 10 = .ok (.ifCond .lt 23, 3) := by decide +kernel
theorem dX10_digits_13 : decode cX10_digits 13 = .ok (.bipush 10, 2) := by decide +kernel
theorem dX10_digits_15 : decode cX10_digits 15 = .ok (.iload_n 2, 1) := by decide +kernel
theorem dX10_digits_16 : decode cX10_digits 16 = .ok (.imul, 1) := by decide +kernel
theorem dX10_digits_17 : decode cX10_digits 17 = .ok (.aload_n 0, 1) := by decide +kernel
theorem dX10_digits_18 : decode cX10_digits 18 = .ok (.getfield 15, 3) := by decide +kernel
theorem dX10_digits_21 : decode cX10_digits 21 = .ok (.iload_n 3, 1) := by decide +kernel
theorem dX10_digits_22 : decode cX10_digits 22 = .ok (.iaload, 1) := by decide +kernel
theorem dX10_digits_23 : decode cX10_digits 23 = .ok (.iadd, 1) := by decide +kernel
theorem dX10_digits_24 : decode cX10_digits 24 = .ok (.iload_n 1, 1) := by decide +kernel
theorem dX10_digits_25 : decode cX10_digits 25 = .ok (.iadd, 1) := by decide +kernel
theorem dX10_digits_26 : decode cX10_digits 26 = .ok (.istore_n 2, 1) := by decide +kernel
theorem dX10_digits_27 : decode cX10_digits 27 = .ok (.iinc 3 (-1), 3) := by decide +kernel
theorem dX10_digits_30 : decode cX10_digits 30 = .ok (.goto (-21), 3) := by decide +kernel
theorem dX10_digits_33 : decode cX10_digits 33 = .ok (.iload_n 2, 1) := by decide +kernel
theorem dX10_digits_34 : decode cX10_digits 34 = .ok (.ireturn, 1) := by decide +kernel
theorem dX10_first_0 : decode cX10_first 0 = .ok (.iconst 1, 1) := by decide +kernel
theorem dX10_first_1 : decode cX10_first 1 = .ok (.istore_n 1, 1) := by decide +kernel
theorem dX10_first_2 : decode cX10_first 2 = .ok (.iconst 0, 1) := by decide +kernel
theorem dX10_first_3 : decode cX10_first 3 = .ok (.istore_n 2, 1) := by decide +kernel
theorem dX10_first_4 : decode cX10_first 4 = .ok (.iload_n 2, 1) := by decide +kernel
theorem dX10_first_5 : decode cX10_first 5 = .ok (.aload_n 0, 1) := by decide +kernel
theorem dX10_first_6 : decode cX10_first 6 = .ok (.getfield 9, 3) := by decide +kernel
theorem dX10_first_9 : decode cX10_first 9 = .ok (.if_icmp .ge 46, 3) := by decide +kernel
theorem dX10_first_12 : decode cX10_first 12 = .ok (.aload_n 0, 1) := by decide +kernel
theorem dX10_first_13 : decode cX10_first 13 = .ok (.getfield 15, 3) := by decide +kernel
theorem dX10_first_16 : decode cX10_first 16 = .ok (.iload_n 2, 1) := by decide +kernel
theorem dX10_first_17 : decode cX10_first 17 = .ok (.aload_n 0, 1) := by decide +kernel
theorem dX10_first_18 : decode cX10_first 18 = .ok (.getfield 19, 3) := by decide +kernel
theorem dX10_first_21 : decode cX10_first 21 = .ok (.iload_n 2, 1) := by decide +kernel
theorem dX10_first_22 : decode cX10_first 22 = .ok (.iaload, 1) := by decide +kernel
theorem dX10_first_23 : decode cX10_first 23 = .ok (.iastore, 1) := by decide +kernel
theorem dX10_first_24 : decode cX10_first 24 = .ok (.iload_n 1, 1) := by decide +kernel
theorem dX10_first_25 : decode cX10_first 25 = .ok (.ifCond .eq 22, 3) := by decide +kernel
theorem dX10_first_28 : decode cX10_first 28 = .ok (.aload_n 0, 1) := by decide +kernel
theorem dX10_first_29 : decode cX10_first 29 = .ok (.getfield 19, 3) := by decide +kernel
theorem dX10_first_32 : decode cX10_first 32 = .ok (.iload_n 2, 1) := by decide +kernel
theorem dX10_first_33 : decode cX10_first 33 = .ok (.iaload, 1) := by decide +kernel
theorem dX10_first_34 : decode cX10_first 34 = .ok (.aload_n 0, 1) := by decide +kernel
theorem dX10_first_35 : decode cX10_first 35 = .ok (.getfield 22, 3) := by decide +kernel
theorem dX10_first_38 : decode cX10_first 38 = .ok (.iload_n 2, 1) := by decide +kernel
theorem dX10_first_39 : decode cX10_first 39 = .ok (.iaload, 1) := by decide +kernel
theorem dX10_first_40 : decode cX10_first 40 = .ok (.if_icmp .gt 7, 3) := by decide +kernel
theorem dX10_first_43 : decode cX10_first 43 = .ok (.iconst 1, 1) := by decide +kernel
theorem dX10_first_44 : decode cX10_first 44 = .ok (.goto 4, 3) := by decide +kernel
theorem dX10_first_47 : decode cX10_first 47 = .ok (.iconst 0, 1) := by decide +kernel
theorem dX10_first_48 : decode cX10_first 48 = .ok (.istore_n 1, 1) := by decide +kernel
theorem dX10_first_49 : decode cX10_first 49 = .ok (.iinc 2 1, 3) := by decide +kernel
theorem dX10_first_52 : decode cX10_first 52 = .ok (.goto (-48), 3) := by decide +kernel
theorem dX10_first_55 : decode cX10_first 55 = .ok (.iload_n 1, 1) := by decide +kernel
theorem dX10_first_56 : decode cX10_first 56 = .ok (.ifCond .eq 20, 3) := by decide +kernel
theorem dX10_first_59 : decode cX10_first 59 = .ok (.aload_n 0, 1) := by decide +kernel
theorem dX10_first_60 : decode cX10_first 60 = .ok (.aload_n 0, 1) := by decide +kernel
theorem dX10_first_61 : decode cX10_first 61 = .ok (.getfield 9, 3) := by decide +kernel
theorem dX10_first_64 : decode cX10_first 64 = .ok (.iconst 1, 1) := by decide +kernel
theorem dX10_first_65 : decode cX10_first 65 = .ok (.isub, 1) := by decide +kernel
theorem dX10_first_66 : decode cX10_first 66 = .ok (.invokevirtual 25, 3) := by decide +kernel
theorem dX10_first_69 : decode cX10_first 69 = .ok (.ifCond .eq 7, 3) := by decide +kernel
theorem dX10_first_72 : decode cX10_first 72 = .ok (.iconst 1, 1) := by decide +kernel
theorem dX10_first_73 : decode cX10_first 73 = .ok (.goto 4, 3) := by decide +kernel
theorem dX10_first_76 : decode cX10_first 76 = .ok (.iconst 0, 1) := by decide +kernel
theorem dX10_first_77 : decode cX10_first 77 = .ok (.ireturn, 1) := by decide +kernel
theorem dX10_hold_0 : decode cX10_hold 0 = .ok (.aload_n 0, 1) := by decide +kernel
theorem dX10_hold_1 : decode cX10_hold 1 = .ok (.getfield 19, 3) := by decide +kernel
theorem dX10_hold_4 : decode cX10_hold 4 = .ok (.iload_n 1, 1) := by decide +kernel
theorem dX10_hold_5 : decode cX10_hold 5 = .ok (.iload_n 2, 1) := by decide +kernel
theorem dX10_hold_6 : decode cX10_hold 6 = .ok (.iastore, 1) := by decide +kernel
theorem dX10_hold_7 : decode cX10_hold 7 = .ok (.aload_n 0, 1) := by decide +kernel
theorem dX10_hold_8 : decode cX10_hold 8 = .ok (.getfield 22, 3) := by decide +kernel
theorem dX10_hold_11 : decode cX10_hold 11 = .ok (.iload_n 1, 1) := by decide +kernel
theorem dX10_hold_12 : decode cX10_hold 12 = .ok (.iload_n 2, 1) := by decide +kernel
theorem dX10_hold_13 : decode cX10_hold 13 = .ok (.iastore, 1) := by decide +kernel
theorem dX10_hold_14 : decode cX10_hold 14 = .ok (.return_, 1) := by decide +kernel
theorem dX10_init_0 : decode cX10_init 0 = .ok (.aload_n 0, 1) := by decide +kernel
theorem dX10_init_1 : decode cX10_init 1 = .ok (.invokespecial 3, 3) := by decide +kernel
theorem dX10_init_4 : decode cX10_init 4 = .ok (.aload_n 0, 1) := by decide +kernel
theorem dX10_init_5 : decode cX10_init 5 = .ok (.iconst 0, 1) := by decide +kernel
theorem dX10_init_6 : decode cX10_init 6 = .ok (.putfield 9, 3) := by decide +kernel
theorem dX10_init_9 : decode cX10_init 9 = .ok (.aload_n 0, 1) := by decide +kernel
theorem dX10_init_10 : decode cX10_init 10 = .ok (.bipush 6, 2) := by decide +kernel
theorem dX10_init_12 : decode cX10_init 12 = .ok (.newarray .int, 2) := by decide +kernel
theorem dX10_init_14 : decode cX10_init 14 = .ok (.putfield 15, 3) := by decide +kernel
theorem dX10_init_17 : decode cX10_init 17 = .ok (.aload_n 0, 1) := by decide +kernel
theorem dX10_init_18 : decode cX10_init 18 = .ok (.bipush 6, 2) := by decide +kernel
theorem dX10_init_20 : decode cX10_init 20 = .ok (.newarray .int, 2) := by decide +kernel
theorem dX10_init_22 : decode cX10_init 22 = .ok (.putfield 19, 3) := by decide +kernel
theorem dX10_init_25 : decode cX10_init 25 = .ok (.aload_n 0, 1) := by decide +kernel
theorem dX10_init_26 : decode cX10_init 26 = .ok (.bipush 6, 2) := by decide +kernel
theorem dX10_init_28 : decode cX10_init 28 = .ok (.newarray .int, 2) := by decide +kernel
theorem dX10_init_30 : decode cX10_init 30 = .ok (.putfield 22, 3) := by decide +kernel
theorem dX10_init_33 : decode cX10_init 33 = .ok (.return_, 1) := by decide +kernel
