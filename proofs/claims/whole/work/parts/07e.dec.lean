theorem dX12_whyNot_0 : decode cX12_whyNot 0 = .ok (.iload_n 1, 1) := by decide +kernel
theorem dX12_whyNot_1 : decode cX12_whyNot 1 = .ok (.invokestatic 145, 3) := by decide +kernel
theorem dX12_whyNot_4 : decode cX12_whyNot 4 = .ok (.ifCond .ne 5, 3) := by decide +kernel
theorem dX12_whyNot_7 : decode cX12_whyNot 7 = .ok (.iconst (-1), 1) := by decide +kernel
theorem dX12_whyNot_8 : decode cX12_whyNot 8 = .ok (.ireturn, 1) := by decide +kernel
theorem dX12_whyNot_9 : decode cX12_whyNot 9 = .ok (.iload_n 2, 1) := by decide +kernel
theorem dX12_whyNot_10 : decode cX12_whyNot 10 = .ok (.i2l, 1) := by decide +kernel
theorem dX12_whyNot_11 : decode cX12_whyNot 11 = .ok (.lconst 0, 1) := by decide +kernel
theorem dX12_whyNot_12 : decode cX12_whyNot 12 = .ok (.ldc2_w 123, 3) := by decide +kernel
theorem dX12_whyNot_15 : decode cX12_whyNot 15 = .ok (.invokestatic 70, 3) := by decide +kernel
theorem dX12_whyNot_18 : decode cX12_whyNot 18 = .ok (.ifCond .ne 6, 3) := by decide +kernel
theorem dX12_whyNot_21 : decode cX12_whyNot 21 = .ok (.bipush (-2), 2) := by decide +kernel
theorem dX12_whyNot_23 : decode cX12_whyNot 23 = .ok (.ireturn, 1) := by decide +kernel
theorem dX12_whyNot_24 : decode cX12_whyNot 24 = .ok (.aload_n 0, 1) := by decide +kernel
theorem dX12_whyNot_25 : decode cX12_whyNot 25 = .ok (.iload_n 1, 1) := by decide +kernel
theorem dX12_whyNot_26 : decode cX12_whyNot 26 = .ok (.invokevirtual 220, 3) := by decide +kernel
theorem dX12_whyNot_29 : decode cX12_whyNot 29 = .ok (.ifCond .eq 17, 3) := by decide +kernel
theorem dX12_whyNot_32 : decode cX12_whyNot 32 = .ok (.aload_n 0, 1) := by decide +kernel
theorem dX12_whyNot_33 : decode cX12_whyNot 33 = .ok (.getfield 23, 3) := by decide +kernel
theorem dX12_whyNot_36 : decode cX12_whyNot 36 = .ok (.iload_n 1, 1) := by decide +kernel
theorem dX12_whyNot_37 : decode cX12_whyNot 37 = .ok (.iaload, 1) := by decide +kernel
theorem dX12_whyNot_38 : decode cX12_whyNot 38 = .ok (.iconst 3, 1) := by decide +kernel
theorem dX12_whyNot_39 : decode cX12_whyNot 39 = .ok (.if_icmp .gt 7, 3) := by decide +kernel
theorem dX12_whyNot_42 : decode cX12_whyNot 42 = .ok (.iconst 0, 1) := by decide +kernel
theorem dX12_whyNot_43 : decode cX12_whyNot 43 = .ok (.goto 5, 3) := by decide +kernel
theorem dX12_whyNot_46 : decode cX12_whyNot 46 = .ok (.bipush (-3), 2) := by decide +kernel
theorem dX12_whyNot_48 : decode cX12_whyNot 48 = .ok (.ireturn, 1) := by decide +kernel
theorem dX12_wipe_0 : decode cX12_wipe 0 = .ok (.aload_n 0, 1) := by decide +kernel
theorem dX12_wipe_1 : decode cX12_wipe 1 = .ok (.getfield 261, 3) := by decide +kernel
theorem dX12_wipe_4 : decode cX12_wipe 4 = .ok (.istore_n 1, 1) := by decide +kernel
theorem dX12_wipe_5 : decode cX12_wipe 5 = .ok (.aload_n 0, 1) := by decide +kernel
theorem dX12_wipe_6 : decode cX12_wipe 6 = .ok (.iconst 0, 1) := by decide +kernel
theorem dX12_wipe_7 : decode cX12_wipe 7 = .ok (.putfield 261, 3) := by decide +kernel
theorem dX12_wipe_10 : decode cX12_wipe 10 = .ok (.iload_n 1, 1) := by decide +kernel
theorem dX12_wipe_11 : decode cX12_wipe 11 = .ok (.ireturn, 1) := by decide +kernel
theorem dX12_won_0 : decode cX12_won 0 = .ok (.aload_n 0, 1) := by decide +kernel
theorem dX12_won_1 : decode cX12_won 1 = .ok (.iload_n 1, 1) := by decide +kernel
theorem dX12_won_2 : decode cX12_won 2 = .ok (.iload_n 2, 1) := by decide +kernel
theorem dX12_won_3 : decode cX12_won 3 = .ok (.invokevirtual 223, 3) := by decide +kernel
theorem dX12_won_6 : decode cX12_won 6 = .ok (.istore_n 3, 1) := by decide +kernel
theorem dX12_won_7 : decode cX12_won 7 = .ok (.iload_n 3, 1) := by decide +kernel
theorem dX12_won_8 : decode cX12_won 8 = .ok (.ifCond .eq 5, 3) := by decide +kernel
theorem dX12_won_11 : decode cX12_won 11 = .ok (.iload_n 3, 1) := by decide +kernel
theorem dX12_won_12 : decode cX12_won 12 = .ok (.ireturn, 1) := by decide +kernel
theorem dX12_won_13 : decode cX12_won 13 = .ok (.aload_n 0, 1) := by decide +kernel
theorem dX12_won_14 : decode cX12_won 14 = .ok (.iload_n 1, 1) := by decide +kernel
theorem dX12_won_15 : decode cX12_won 15 = .ok (.iconst 5, 1) := by decide +kernel
theorem dX12_won_16 : decode cX12_won 16 = .ok (.invokevirtual 161, 3) := by decide +kernel
theorem dX12_won_19 : decode cX12_won 19 = .ok (.aload_n 0, 1) := by decide +kernel
theorem dX12_won_20 : decode cX12_won 20 = .ok (.iload_n 2, 1) := by decide +kernel
theorem dX12_won_21 : decode cX12_won 21 = .ok (.invokevirtual 205, 3) := by decide +kernel
theorem dX12_won_24 : decode cX12_won 24 = .ok (.ifCond .eq 7, 3) := by decide +kernel
theorem dX12_won_27 : decode cX12_won 27 = .ok (.iconst 1, 1) := by decide +kernel
theorem dX12_won_28 : decode cX12_won 28 = .ok (.goto 4, 3) := by decide +kernel
theorem dX12_won_31 : decode cX12_won 31 = .ok (.iconst 0, 1) := by decide +kernel
theorem dX12_won_32 : decode cX12_won 32 = .ok (.ireturn, 1) := by decide +kernel
theorem dX12_word_0 : decode cX12_word 0 = .ok (.aload_n 0, 1) := by decide +kernel
theorem dX12_word_1 : decode cX12_word 1 = .ok (.getfield 264, 3) := by decide +kernel
theorem dX12_word_4 : decode cX12_word 4 = .ok (.istore_n 1, 1) := by decide +kernel
theorem dX12_word_5 : decode cX12_word 5 = .ok (.aload_n 0, 1) := by decide +kernel
theorem dX12_word_6 : decode cX12_word 6 = .ok (.bipush 97, 2) := by decide +kernel
theorem dX12_word_8 : decode cX12_word 8 = .ok (.bipush 122, 2) := by decide +kernel
theorem dX12_word_10 : decode cX12_word 10 = .ok (.invokevirtual 270, 3) := by decide +kernel
theorem dX12_word_13 : decode cX12_word 13 = .ok (.ifCond .eq 16, 3) := by decide +kernel
theorem dX12_word_16 : decode cX12_word 16 = .ok (.aload_n 0, 1) := by decide +kernel
theorem dX12_word_17 : decode cX12_word 17 = .ok (.dup, 1) := by decide +kernel
theorem dX12_word_18 : decode cX12_word 18 = .ok (.getfield 264, 3) := by decide +kernel
theorem dX12_word_21 : decode cX12_word 21 = .ok (.iconst 1, 1) := by decide +kernel
theorem dX12_word_22 : decode cX12_word 22 = .ok (.iadd, 1) := by decide +kernel
theorem dX12_word_23 : decode cX12_word 23 = .ok (.putfield 264, 3) := by decide +kernel
theorem dX12_word_26 : decode cX12_word 26 = .ok (.goto (-21), 3) := by decide +kernel
theorem dX12_word_29 : decode cX12_word 29 = .ok (.iconst 0, 1) := by decide +kernel
theorem dX12_word_30 : decode cX12_word 30 = .ok (.istore_n 2, 1) := by decide +kernel
theorem dX12_word_31 : decode cX12_word 31 = .ok (.iconst 0, 1) := by decide +kernel
theorem dX12_word_32 : decode cX12_word 32 = .ok (.istore_n 3, 1) := by decide +kernel
theorem dX12_word_33 : decode cX12_word 33 = .ok (.iload_n 3, 1) := by decide +kernel
theorem dX12_word_34 : decode cX12_word 34 = .ok (.iconst 4, 1) := by decide +kernel
theorem dX12_word_35 : decode cX12_word 35 = .ok (.if_icmp .ge 115, 3) := by decide +kernel
theorem dX12_word_38 : decode cX12_word 38 = .ok (.iload_n 2, 1) := by decide +kernel
theorem dX12_word_39 : decode cX12_word 39 = .ok (.istore 4, 2) := by decide +kernel
theorem dX12_word_41 : decode cX12_word 41 = .ok (.aload_n 0, 1) := by decide +kernel
theorem dX12_word_42 : decode cX12_word 42 = .ok (.getfield 42, 3) := by decide +kernel
theorem dX12_word_45 : decode cX12_word 45 = .ok (.iload 4, 2) := by decide +kernel
theorem dX12_word_47 : decode cX12_word 47 = .ok (.caload, 1) := by decide +kernel
theorem dX12_word_48 : decode cX12_word 48 = .ok (.bipush 32, 2) := by decide +kernel
theorem dX12_word_50 : decode cX12_word 50 = .ok (.if_icmp .eq 9, 3) := by decide +kernel
theorem dX12_word_53 : decode cX12_word 53 = .ok (.iinc 4 1, 3) := by decide +kernel
theorem dX12_word_56 : decode cX12_word 56 = .ok (.goto (-15), 3) := by decide +kernel
theorem dX12_word_59 : decode cX12_word 59 = .ok (.iload 4, 2) := by decide +kernel
theorem dX12_word_61 : decode cX12_word 61 = .ok (.iload_n 2, 1) := by decide +kernel
theorem dX12_word_62 : decode cX12_word 62 = .ok (.isub, 1) := by decide +kernel
theorem dX12_word_63 : decode cX12_word 63 = .ok (.aload_n 0, 1) := by decide +kernel
theorem dX12_word_64 : decode cX12_word 64 = .ok (.getfield 264, 3) := by decide +kernel
theorem dX12_word_67 : decode cX12_word 67 = .ok (.iload_n 1, 1) := by decide +kernel
theorem dX12_word_68 : decode cX12_word 68 = .ok (.isub, 1) := by decide +kernel
theorem dX12_word_69 : decode cX12_word 69 = .ok (.if_icmp .ne 7, 3) := by decide +kernel
theorem dX12_word_72 : decode cX12_word 72 = .ok (.iconst 1, 1) := by decide +kernel
theorem dX12_word_73 : decode cX12_word 73 = .ok (.goto 4, 3) := by decide +kernel
theorem dX12_word_76 : decode cX12_word 76 = .ok (.iconst 0, 1) := by decide +kernel
theorem dX12_word_77 : decode cX12_word 77 = .ok (.istore 5, 2) := by decide +kernel
theorem dX12_word_79 : decode cX12_word 79 = .ok (.iconst 0, 1) := by decide +kernel
theorem dX12_word_80 : decode cX12_word 80 = .ok (.istore 6, 2) := by decide +kernel
theorem dX12_word_82 : decode cX12_word 82 = .ok (.iload 5, 2) := by decide +kernel
theorem dX12_word_84 : decode cX12_word 84 = .ok (.ifCond .eq 48, 3) := by decide +kernel
theorem dX12_word_87 : decode cX12_word 87 = .ok (.iload 6, 2) := by decide +kernel
theorem dX12_word_89 : decode cX12_word 89 = .ok (.aload_n 0, 1) := by decide +kernel
theorem dX12_word_90 : decode cX12_word 90 = .ok (.getfield 264, 3) := by decide +kernel
theorem dX12_word_93 : decode cX12_word 93 = .ok (.iload_n 1, 1) := by decide +kernel
theorem dX12_word_94 : decode cX12_word 94 = .ok (.isub, 1) := by decide +kernel
theorem dX12_word_95 : decode cX12_word 95 = .ok (.if_icmp .ge 37, 3) := by decide +kernel
theorem dX12_word_98 : decode cX12_word 98 = .ok (.aload_n 0, 1) := by decide +kernel
theorem dX12_word_99 : decode cX12_word 99 = .ok (.getfield 42, 3) := by decide +kernel
theorem dX12_word_102 : decode cX12_word 102 = .ok (.iload_n 2, 1) := by decide +kernel
theorem dX12_word_103 : decode cX12_word 103 = .ok (.iload 6, 2) := by decide +kernel
theorem dX12_word_105 : decode cX12_word 105 = .ok (.iadd, 1) := by decide +kernel
theorem dX12_word_106 : decode cX12_word 106 = .ok (.caload, 1) := by decide +kernel
theorem dX12_word_107 : decode cX12_word 107 = .ok (.aload_n 0, 1) := by decide +kernel
theorem dX12_word_108 : decode cX12_word 108 = .ok (.getfield 49, 3) := by decide +kernel
theorem dX12_word_111 : decode cX12_word 111 = .ok (.iload_n 1, 1) := by decide +kernel
theorem dX12_word_112 : decode cX12_word 112 = .ok (.iload 6, 2) := by decide +kernel
theorem dX12_word_114 : decode cX12_word 114 = .ok (.iadd, 1) := by decide +kernel
theorem dX12_word_115 : decode cX12_word 115 = .ok (.iaload, 1) := by decide +kernel
theorem dX12_word_116 : decode cX12_word 116 = .ok (.if_icmp .ne 7, 3) := by decide +kernel
theorem dX12_word_119 : decode cX12_word 119 = .ok (.iconst 1, 1) := by decide +kernel
theorem dX12_word_120 : decode cX12_word 120 = .ok (.goto 4, 3) := by decide +kernel
theorem dX12_word_123 : decode cX12_word 123 = .ok (.iconst 0, 1) := by decide +kernel
theorem dX12_word_124 : decode cX12_word 124 = .ok (.istore 5, 2) := by decide +kernel
theorem dX12_word_126 : decode cX12_word 126 = .ok (.iinc 6 1, 3) := by decide +kernel
theorem dX12_word_129 : decode cX12_word 129 = .ok (.goto (-47), 3) := by decide +kernel
theorem dX12_word_132 : decode cX12_word 132 = .ok (.iload 5, 2) := by decide +kernel
theorem dX12_word_134 : decode cX12_word 134 = .ok (.ifCond .eq 5, 3) := by decide +kernel
theorem dX12_word_137 : decode cX12_word 137 = .ok (.iload_n 3, 1) := by decide +kernel
theorem dX12_word_138 : decode cX12_word 138 = .ok (.ireturn, 1) := by decide +kernel
theorem dX12_word_139 : decode cX12_word 139 = .ok (.iload 4, 2) := by decide +kernel
theorem dX12_word_141 : decode cX12_word 141 = .ok (.iconst 1, 1) := by decide +kernel
theorem dX12_word_142 : decode cX12_word 142 = .ok (.iadd, 1) := by decide +kernel
theorem dX12_word_143 : decode cX12_word 143 = .ok (.istore_n 2, 1) := by decide +kernel
theorem dX12_word_144 : decode cX12_word 144 = .ok (.iinc 3 1, 3) := by decide +kernel
theorem dX12_word_147 : decode cX12_word 147 = .ok (.goto (-114), 3) := by decide +kernel
theorem dX12_word_150 : decode cX12_word 150 = .ok (.aload_n 0, 1) := by decide +kernel
theorem dX12_word_151 : decode cX12_word 151 = .ok (.iload_n 1, 1) := by decide +kernel
theorem dX12_word_152 : decode cX12_word 152 = .ok (.putfield 264, 3) := by decide +kernel
theorem dX12_word_155 : decode cX12_word 155 = .ok (.iconst (-1), 1) := by decide +kernel
theorem dX12_word_156 : decode cX12_word 156 = .ok (.ireturn, 1) := by decide +kernel
theorem dX12_writes_0 : decode cX12_writes 0 = .ok (.aload_n 0, 1) := by decide +kernel
theorem dX12_writes_1 : decode cX12_writes 1 = .ok (.aload_n 0, 1) := by decide +kernel
theorem dX12_writes_2 : decode cX12_writes 2 = .ok (.getfield 290, 3) := by decide +kernel
theorem dX12_writes_5 : decode cX12_writes 5 = .ok (.aload_n 0, 1) := by decide +kernel
theorem dX12_writes_6 : decode cX12_writes 6 = .ok (.getfield 293, 3) := by decide +kernel
theorem dX12_writes_9 : decode cX12_writes 9 = .ok (.if_icmp .ne 7, 3) := by decide +kernel
theorem dX12_writes_12 : decode cX12_writes 12 = .ok (.iload_n 1, 1) := by decide +kernel
theorem dX12_writes_13 : decode cX12_writes 13 = .ok (.goto 7, 3) := by decide +kernel
theorem dX12_writes_16 : decode cX12_writes 16 = .ok (.aload_n 0, 1) := by decide +kernel
theorem dX12_writes_17 : decode cX12_writes 17 = .ok (.getfield 296, 3) := by decide +kernel
theorem dX12_writes_20 : decode cX12_writes 20 = .ok (.putfield 296, 3) := by decide +kernel
theorem dX12_writes_23 : decode cX12_writes 23 = .ok (.aload_n 0, 1) := by decide +kernel
theorem dX12_writes_24 : decode cX12_writes 24 = .ok (.dup, 1) := by decide +kernel
theorem dX12_writes_25 : decode cX12_writes 25 = .ok (.getfield 290, 3) := by decide +kernel
theorem dX12_writes_28 : decode cX12_writes 28 = .ok (.iconst 1, 1) := by decide +kernel
theorem dX12_writes_29 : decode cX12_writes 29 = .ok (.iadd, 1) := by decide +kernel
theorem dX12_writes_30 : decode cX12_writes 30 = .ok (.putfield 290, 3) := by decide +kernel
theorem dX12_writes_33 : decode cX12_writes 33 = .ok (.return_, 1) := by decide +kernel
theorem dX12_writesFigure_0 : decode cX12_writesFigure 0 = .ok (.aload_n 0, 1) := by decide +kernel
theorem dX12_writesFigure_1 : decode cX12_writesFigure 1 = .ok (.bipush 32, 2) := by decide +kernel
theorem dX12_writesFigure_3 : decode cX12_writesFigure 3 = .ok (.invokevirtual 299, 3) := by decide +kernel
theorem dX12_writesFigure_6 : decode cX12_writesFigure 6 = .ok (.aload_n 0, 1) := by decide +kernel
theorem dX12_writesFigure_7 : decode cX12_writesFigure 7 = .ok (.bipush 48, 2) := by decide +kernel
theorem dX12_writesFigure_9 : decode cX12_writesFigure 9 = .ok (.iload_n 1, 1) := by decide +kernel
theorem dX12_writesFigure_10 : decode cX12_writesFigure 10 = .ok (.iadd, 1) := by decide +kernel
theorem dX12_writesFigure_11 : decode cX12_writesFigure 11 = .ok (.invokevirtual 299, 3) := by decide +kernel
theorem dX12_writesFigure_14 : decode cX12_writesFigure 14 = .ok (.return_, 1) := by decide +kernel
theorem dX12_writesWord_0 : decode cX12_writesWord 0 = .ok (.iconst 0, 1) := by decide +kernel
theorem dX12_writesWord_1 : decode cX12_writesWord 1 = .ok (.istore_n 2, 1) := by decide +kernel
theorem dX12_writesWord_2 : decode cX12_writesWord 2 = .ok (.iconst 0, 1) := by decide +kernel
theorem dX12_writesWord_3 : decode cX12_writesWord 3 = .ok (.istore_n 3, 1) := by decide +kernel
theorem dX12_writesWord_4 : decode cX12_writesWord 4 = .ok (.iload_n 3, 1) := by decide +kernel
theorem dX12_writesWord_5 : decode cX12_writesWord 5 = .ok (.iload_n 1, 1) := by decide +kernel
theorem dX12_writesWord_6 : decode cX12_writesWord 6 = .ok (.if_icmp .ge 28, 3) := by decide +kernel
theorem dX12_writesWord_9 : decode cX12_writesWord 9 = .ok (.iload_n 3, 1) := by decide +kernel
theorem dX12_writesWord_10 : decode cX12_writesWord 10 = .ok (.aload_n 0, 1) := by decide +kernel
theorem dX12_writesWord_11 : decode cX12_writesWord 11 = .ok (.getfield 42, 3) := by decide +kernel
theorem dX12_writesWord_14 : decode cX12_writesWord 14 = .ok (.iload_n 2, 1) := by decide +kernel
theorem dX12_writesWord_15 : decode cX12_writesWord 15 = .ok (.caload, 1) := by decide +kernel
theorem dX12_writesWord_16 : decode cX12_writesWord 16 = .ok (.bipush 32, 2) := by decide +kernel
theorem dX12_writesWord_18 : decode cX12_writesWord 18 = .ok (.if_icmp .ne 7, 3) := by decide +kernel
theorem dX12_writesWord_21 : decode cX12_writesWord 21 = .ok (.iconst 1, 1) := by decide +kernel
theorem dX12_writesWord_22 : decode cX12_writesWord 22 = .ok (.goto 4, 3) := by decide +kernel
theorem dX12_writesWord_25 : decode cX12_writesWord 25 = .ok (.iconst 0, 1) := by decide +kernel
theorem dX12_writesWord_26 : decode cX12_writesWord 26 = .ok (.iadd, 1) := by decide +kernel
theorem dX12_writesWord_27 : decode cX12_writesWord 27 = .ok (.istore_n 3, 1) := by decide +kernel
theorem dX12_writesWord_28 : decode cX12_writesWord 28 = .ok (.iinc 2 1, 3) := by decide +kernel
theorem dX12_writesWord_31 : decode cX12_writesWord 31 = .ok (.goto (-27), 3) := by decide +kernel
theorem dX12_writesWord_34 : decode cX12_writesWord 34 = .ok (.iload_n 2, 1) := by decide +kernel
theorem dX12_writesWord_35 : decode cX12_writesWord 35 = .ok (.istore_n 3, 1) := by decide +kernel
theorem dX12_writesWord_36 : decode cX12_writesWord 36 = .ok (.aload_n 0, 1) := by decide +kernel
theorem dX12_writesWord_37 : decode cX12_writesWord 37 = .ok (.getfield 42, 3) := by decide +kernel
theorem dX12_writesWord_40 : decode cX12_writesWord 40 = .ok (.iload_n 3, 1) := by decide +kernel
theorem dX12_writesWord_41 : decode cX12_writesWord 41 = .ok (.caload, 1) := by decide +kernel
theorem dX12_writesWord_42 : decode cX12_writesWord 42 = .ok (.bipush 32, 2) := by decide +kernel
theorem dX12_writesWord_44 : decode cX12_writesWord 44 = .ok (.if_icmp .eq 19, 3) := by decide +kernel
theorem dX12_writesWord_47 : decode cX12_writesWord 47 = .ok (.aload_n 0, 1) := by decide +kernel
theorem dX12_writesWord_48 : decode cX12_writesWord 48 = .ok (.aload_n 0, 1) := by decide +kernel
theorem dX12_writesWord_49 : decode cX12_writesWord 49 = .ok (.getfield 42, 3) := by decide +kernel
theorem dX12_writesWord_52 : decode cX12_writesWord 52 = .ok (.iload_n 3, 1) := by decide +kernel
theorem dX12_writesWord_53 : decode cX12_writesWord 53 = .ok (.caload, 1) := by decide +kernel
theorem dX12_writesWord_54 : decode cX12_writesWord 54 = .ok (.invokevirtual 299, 3) := by decide +kernel
theorem dX12_writesWord_57 : decode cX12_writesWord 57 = .ok (.iinc 3 1, 3) := by decide +kernel
theorem dX12_writesWord_60 : decode cX12_writesWord 60 = .ok (.goto (-24), 3) := by decide +kernel
theorem dX12_writesWord_63 : decode cX12_writesWord 63 = .ok (.return_, 1) := by decide +kernel
theorem dX2_answers_0 : decode cX2_answers 0 = .ok (.aload_n 0, 1) := by decide +kernel
theorem dX2_answers_1 : decode cX2_answers 1 = .ok (.getfield 29, 3) := by decide +kernel
theorem dX2_answers_4 : decode cX2_answers 4 = .ok (.getfield 37, 3) := by decide +kernel
theorem dX2_answers_7 : decode cX2_answers 7 = .ok (.getfield 97, 3) := by decide +kernel
theorem dX2_answers_10 : decode cX2_answers 10 = .ok (.astore_n 3, 1) := by decide +kernel
theorem dX2_answers_11 : decode cX2_answers 11 = .ok (.iconst 0, 1) := by decide +kernel
theorem dX2_answers_12 : decode cX2_answers 12 = .ok (.istore 4, 2) := by decide +kernel
theorem dX2_answers_14 : decode cX2_answers 14 = .ok (.iload 4, 2) := by decide +kernel
theorem dX2_answers_16 : decode cX2_answers 16 = .ok (.aload_n 0, 1) := by decide +kernel
theorem dX2_answers_17 : decode cX2_answers 17 = .ok (.getfield 12, 3) := by decide +kernel
theorem dX2_answers_20 : decode cX2_answers 20 = .ok (.getfield 89, 3) := by decide +kernel
theorem dX2_answers_23 : decode cX2_answers 23 = .ok (.if_icmp .ge 63, 3) := by decide +kernel
theorem dX2_answers_26 : decode cX2_answers 26 = .ok (.iload 4, 2) := by decide +kernel
theorem dX2_answers_28 : decode cX2_answers 28 = .ok (.istore 5, 2) := by decide +kernel
theorem dX2_answers_30 : decode cX2_answers 30 = .ok (.iload 5, 2) := by decide +kernel
theorem dX2_answers_32 : decode cX2_answers 32 = .ok (.aload_n 0, 1) := by decide +kernel
theorem dX2_answers_33 : decode cX2_answers 33 = .ok (.getfield 12, 3) := by decide +kernel
theorem dX2_answers_36 : decode cX2_answers 36 = .ok (.getfield 89, 3) := by decide +kernel
theorem dX2_answers_39 : decode cX2_answers 39 = .ok (.if_icmp .ge 41, 3) := by decide +kernel
theorem dX2_answers_42 : decode cX2_answers 42 = .ok (.aload_n 1, 1) := by decide +kernel
theorem dX2_answers_43 : decode cX2_answers 43 = .ok (.bipush 6, 2) := by decide +kernel
theorem dX2_answers_45 : decode cX2_answers 45 = .ok (.iload 4, 2) := by decide +kernel
theorem dX2_answers_47 : decode cX2_answers 47 = .ok (.imul, 1) := by decide +kernel
theorem dX2_answers_48 : decode cX2_answers 48 = .ok (.iload 5, 2) := by decide +kernel
theorem dX2_answers_50 : decode cX2_answers 50 = .ok (.iadd, 1) := by decide +kernel
theorem dX2_answers_51 : decode cX2_answers 51 = .ok (.iaload, 1) := by decide +kernel
theorem dX2_answers_52 : decode cX2_answers 52 = .ok (.iconst 4, 1) := by decide +kernel
theorem dX2_answers_53 : decode cX2_answers 53 = .ok (.aload_n 2, 1) := by decide +kernel
theorem dX2_answers_54 : decode cX2_answers 54 = .ok (.iload 4, 2) := by decide +kernel
theorem dX2_answers_56 : decode cX2_answers 56 = .ok (.iaload, 1) := by decide +kernel
theorem dX2_answers_57 : decode cX2_answers 57 = .ok (.imul, 1) := by decide +kernel
theorem dX2_answers_58 : decode cX2_answers 58 = .ok (.aload_n 3, 1) := by decide +kernel
theorem dX2_answers_59 : decode cX2_answers 59 = .ok (.aload_n 2, 1) := by decide +kernel
theorem dX2_answers_60 : decode cX2_answers 60 = .ok (.iload 5, 2) := by decide +kernel
theorem dX2_answers_62 : decode cX2_answers 62 = .ok (.iaload, 1) := by decide +kernel
theorem dX2_answers_63 : decode cX2_answers 63 = .ok (.iaload, 1) := by decide +kernel
theorem dX2_answers_64 : decode cX2_answers 64 = .ok (.iadd, 1) := by decide +kernel
theorem dX2_answers_65 : decode cX2_answers 65 = .ok (.ishr, 1) := by decide +kernel
theorem dX2_answers_66 : decode cX2_answers 66 = .ok (.iconst 1, 1) := by decide +kernel
theorem dX2_answers_67 : decode cX2_answers 67 = .ok (.iand, 1) := by decide +kernel
theorem dX2_answers_68 : decode cX2_answers 68 = .ok (.iconst 1, 1) := by decide +kernel
theorem dX2_answers_69 : decode cX2_answers 69 = .ok (.if_icmp .ne 5, 3) := by decide +kernel
theorem dX2_answers_72 : decode cX2_answers 72 = .ok (.iconst 1, 1) := by decide +kernel
theorem dX2_answers_73 : decode cX2_answers 73 = .ok (.ireturn, 1) := by decide +kernel
theorem dX2_answers_74 : decode cX2_answers 74 = .ok (.iinc 5 1, 3) := by decide +kernel
theorem dX2_answers_77 : decode cX2_answers 77 = .ok (.goto (-47), 3) := by decide +kernel
theorem dX2_answers_80 : decode cX2_answers 80 = .ok (.iinc 4 1, 3) := by decide +kernel
theorem dX2_answers_83 : decode cX2_answers 83 = .ok (.goto (-69), 3) := by decide +kernel
theorem dX2_answers_86 : decode cX2_answers 86 = .ok (.iconst 0, 1) := by decide +kernel
theorem dX2_answers_87 : decode cX2_answers 87 = .ok (.ireturn, 1) := by decide +kernel
theorem dX2_findGaps_0 : decode cX2_findGaps 0 = .ok (.iconst 0, 1) := by decide +kernel
theorem dX2_findGaps_1 : decode cX2_findGaps 1 = .ok (.istore_n 2, 1) := by decide +kernel
theorem dX2_findGaps_2 : decode cX2_findGaps 2 = .ok (.iload_n 2, 1) := by decide +kernel
theorem dX2_findGaps_3 : decode cX2_findGaps 3 = .ok (.aload_n 0, 1) := by decide +kernel
theorem dX2_findGaps_4 : decode cX2_findGaps 4 = .ok (.getfield 12, 3) := by decide +kernel
theorem dX2_findGaps_7 : decode cX2_findGaps 7 = .ok (.getfield 89, 3) := by decide +kernel
theorem dX2_findGaps_10 : decode cX2_findGaps 10 = .ok (.if_icmp .ge 52, 3) := by decide +kernel
theorem dX2_findGaps_13 : decode cX2_findGaps 13 = .ok (.iload_n 2, 1) := by decide +kernel
theorem dX2_findGaps_14 : decode cX2_findGaps 14 = .ok (.istore_n 3, 1) := by decide +kernel
theorem dX2_findGaps_15 : decode cX2_findGaps 15 = .ok (.iload_n 3, 1) := by decide +kernel
theorem dX2_findGaps_16 : decode cX2_findGaps 16 = .ok (.aload_n 0, 1) := by decide +kernel
theorem dX2_findGaps_17 : decode cX2_findGaps 17 = .ok (.getfield 12, 3) := by decide +kernel
theorem dX2_findGaps_20 : decode cX2_findGaps 20 = .ok (.getfield 89, 3) := by decide +kernel
theorem dX2_findGaps_23 : decode cX2_findGaps 23 = .ok (.if_icmp .ge 33, 3) := by decide +kernel
theorem dX2_findGaps_26 : decode cX2_findGaps 26 = .ok (.aload_n 1, 1) := by decide +kernel
theorem dX2_findGaps_27 : decode cX2_findGaps 27 = .ok (.bipush 6, 2) := by decide +kernel
theorem dX2_findGaps_29 : decode cX2_findGaps 29 = .ok (.iload_n 2, 1) := by decide +kernel
theorem dX2_findGaps_30 : decode cX2_findGaps 30 = .ok (.imul, 1) := by decide +kernel
theorem dX2_findGaps_31 : decode cX2_findGaps 31 = .ok (.iload_n 3, 1) := by decide +kernel
theorem dX2_findGaps_32 : decode cX2_findGaps 32 = .ok (.iadd, 1) := by decide +kernel
theorem dX2_findGaps_33 : decode cX2_findGaps 33 = .ok (.aload_n 0, 1) := by decide +kernel
theorem dX2_findGaps_34 : decode cX2_findGaps 34 = .ok (.getfield 12, 3) := by decide +kernel
theorem dX2_findGaps_37 : decode cX2_findGaps 37 = .ok (.aload_n 0, 1) := by decide +kernel
theorem dX2_findGaps_38 : decode cX2_findGaps 38 = .ok (.getfield 29, 3) := by decide +kernel
theorem dX2_findGaps_41 : decode cX2_findGaps 41 = .ok (.getfield 37, 3) := by decide +kernel
theorem dX2_findGaps_44 : decode cX2_findGaps 44 = .ok (.iload_n 2, 1) := by decide +kernel
theorem dX2_findGaps_45 : decode cX2_findGaps 45 = .ok (.iload_n 3, 1) := by decide +kernel
theorem dX2_findGaps_46 : decode cX2_findGaps 46 = .ok (.invokevirtual 93, 3) := by decide +kernel
theorem dX2_findGaps_49 : decode cX2_findGaps 49 = .ok (.iastore, 1) := by decide +kernel
theorem dX2_findGaps_50 : decode cX2_findGaps 50 = .ok (.iinc 3 1, 3) := by decide +kernel
theorem dX2_findGaps_53 : decode cX2_findGaps 53 = .ok (.goto (-38), 3) := by decide +kernel
theorem dX2_findGaps_56 : decode cX2_findGaps 56 = .ok (.iinc 2 1, 3) := by decide +kernel
theorem dX2_findGaps_59 : decode cX2_findGaps 59 = .ok (.goto (-57), 3) := by decide +kernel
theorem dX2_findGaps_62 : decode cX2_findGaps 62 = .ok (.return_, 1) := by decide +kernel
theorem dX2_firstLeft_0 : decode cX2_firstLeft 0 = .ok (.iload_n 1, 1) := by decide +kernel
theorem dX2_firstLeft_1 : decode cX2_firstLeft 1 = .ok (.iconst 1, 1) := by decide +kernel
theorem dX2_firstLeft_2 : decode cX2_firstLeft 2 = .ok (.if_icmp .lt 8, 3) := by decide +kernel
theorem dX2_firstLeft_5 : decode cX2_firstLeft 5 = .ok (.iload_n 1, 1) := by decide +kernel
theorem dX2_firstLeft_6 : decode cX2_firstLeft 6 = .ok (.iconst 2, 1) := by decide +kernel
theorem dX2_firstLeft_7 : decode cX2_firstLeft 7 = .ok (.if_icmp .le 6, 3) := by decide +kernel
theorem dX2_firstLeft_10 : decode cX2_firstLeft 10 = .ok (.bipush (-5), 2) := by decide +kernel
theorem dX2_firstLeft_12 : decode cX2_firstLeft 12 = .ok (.ireturn, 1) := by decide +kernel
theorem dX2_firstLeft_13 : decode cX2_firstLeft 13 = .ok (.iconst 0, 1) := by decide +kernel
theorem dX2_firstLeft_14 : decode cX2_firstLeft 14 = .ok (.istore_n 2, 1) := by decide +kernel
theorem dX2_firstLeft_15 : decode cX2_firstLeft 15 = .ok (.iload_n 2, 1) := by decide +kernel
theorem dX2_firstLeft_16 : decode cX2_firstLeft 16 = .ok (.aload_n 0, 1) := by decide +kernel
theorem dX2_firstLeft_17 : decode cX2_firstLeft 17 = .ok (.getfield 12, 3) := by decide +kernel
theorem dX2_firstLeft_20 : decode cX2_firstLeft 20 = .ok (.getfield 89, 3) := by decide +kernel
theorem dX2_firstLeft_23 : decode cX2_firstLeft 23 = .ok (.if_icmp .ge 62, 3) := by decide +kernel
theorem dX2_firstLeft_26 : decode cX2_firstLeft 26 = .ok (.iload_n 2, 1) := by decide +kernel
theorem dX2_firstLeft_27 : decode cX2_firstLeft 27 = .ok (.istore_n 3, 1) := by decide +kernel
theorem dX2_firstLeft_28 : decode cX2_firstLeft 28 = .ok (.iload_n 3, 1) := by decide +kernel
theorem dX2_firstLeft_29 : decode cX2_firstLeft 29 = .ok (.aload_n 0, 1) := by decide +kernel
theorem dX2_firstLeft_30 : decode cX2_firstLeft 30 = .ok (.getfield 12, 3) := by decide +kernel
theorem dX2_firstLeft_33 : decode cX2_firstLeft 33 = .ok (.getfield 89, 3) := by decide +kernel
theorem dX2_firstLeft_36 : decode cX2_firstLeft 36 = .ok (.if_icmp .ge 43, 3) := by decide +kernel
theorem dX2_firstLeft_39 : decode cX2_firstLeft 39 = .ok (.aload_n 0, 1) := by decide +kernel
theorem dX2_firstLeft_40 : decode cX2_firstLeft 40 = .ok (.getfield 26, 3) := by decide +kernel
theorem dX2_firstLeft_43 : decode cX2_firstLeft 43 = .ok (.iload_n 1, 1) := by decide +kernel
theorem dX2_firstLeft_44 : decode cX2_firstLeft 44 = .ok (.iconst 1, 1) := by decide +kernel
theorem dX2_firstLeft_45 : decode cX2_firstLeft 45 = .ok (.isub, 1) := by decide +kernel
theorem dX2_firstLeft_46 : decode cX2_firstLeft 46 = .ok (.aaload, 1) := by decide +kernel
theorem dX2_firstLeft_47 : decode cX2_firstLeft 47 = .ok (.bipush 6, 2) := by decide +kernel
theorem dX2_firstLeft_49 : decode cX2_firstLeft 49 = .ok (.iload_n 2, 1) := by decide +kernel
theorem dX2_firstLeft_50 : decode cX2_firstLeft 50 = .ok (.imul, 1) := by decide +kernel
theorem dX2_firstLeft_51 : decode cX2_firstLeft 51 = .ok (.iload_n 3, 1) := by decide +kernel
theorem dX2_firstLeft_52 : decode cX2_firstLeft 52 = .ok (.iadd, 1) := by decide +kernel
theorem dX2_firstLeft_53 : decode cX2_firstLeft 53 = .ok (.iaload, 1) := by decide +kernel
theorem dX2_firstLeft_54 : decode cX2_firstLeft 54 = .ok (.istore 4, 2) := by decide +kernel
theorem dX2_firstLeft_56 : decode cX2_firstLeft 56 = .ok (.iload 4, 2) := by decide +kernel
theorem dX2_firstLeft_58 : decode cX2_firstLeft 58 = .ok (.ifCond .eq 15, 3) := by decide +kernel
theorem dX2_firstLeft_61 : decode cX2_firstLeft 61 = .ok (.iload_n 2, 1) := by decide +kernel
theorem dX2_firstLeft_62 : decode cX2_firstLeft 62 = .ok (.iload_n 3, 1) := by decide +kernel
theorem dX2_firstLeft_63 : decode cX2_firstLeft 63 = .ok (.iload 4, 2) := by decide +kernel
theorem dX2_firstLeft_65 : decode cX2_firstLeft 65 = .ok (.iconst 0, 1) := by decide +kernel
theorem dX2_firstLeft_66 : decode cX2_firstLeft 66 = .ok (.invokestatic 112, 3) := by decide +kernel
theorem dX2_firstLeft_69 : decode cX2_firstLeft 69 = .ok (.invokestatic 116, 3) := by decide +kernel
theorem dX2_firstLeft_72 : decode cX2_firstLeft 72 = .ok (.ireturn, 1) := by decide +kernel
theorem dX2_firstLeft_73 : decode cX2_firstLeft 73 = .ok (.iinc 3 1, 3) := by decide +kernel
theorem dX2_firstLeft_76 : decode cX2_firstLeft 76 = .ok (.goto (-48), 3) := by decide +kernel
theorem dX2_firstLeft_79 : decode cX2_firstLeft 79 = .ok (.iinc 2 1, 3) := by decide +kernel
theorem dX2_firstLeft_82 : decode cX2_firstLeft 82 = .ok (.goto (-67), 3) := by decide +kernel
theorem dX2_firstLeft_85 : decode cX2_firstLeft 85 = .ok (.bipush (-5), 2) := by decide +kernel
theorem dX2_firstLeft_87 : decode cX2_firstLeft 87 = .ok (.ireturn, 1) := by decide +kernel
theorem dX2_init_0 : decode cX2_init 0 = .ok (.aload_n 0, 1) := by decide +kernel
theorem dX2_init_1 : decode cX2_init 1 = .ok (.invokespecial 3, 3) := by decide +kernel
theorem dX2_init_4 : decode cX2_init 4 = .ok (.aload_n 0, 1) := by decide +kernel
theorem dX2_init_5 : decode cX2_init 5 = .ok (.new 9, 3) := by decide +kernel
theorem dX2_init_8 : decode cX2_init 8 = .ok (.dup, 1) := by decide +kernel
theorem dX2_init_9 : decode cX2_init 9 = .ok (.invokespecial 11, 3) := by decide +kernel
theorem dX2_init_12 : decode cX2_init 12 = .ok (.putfield 12, 3) := by decide +kernel
theorem dX2_init_15 : decode cX2_init 15 = .ok (.aload_n 0, 1) := by decide +kernel
theorem dX2_init_16 : decode cX2_init 16 = .ok (.iconst 2, 1) := by decide +kernel
theorem dX2_init_17 : decode cX2_init 17 = .ok (.anewarray 18, 3) := by decide +kernel
theorem dX2_init_20 : decode cX2_init 20 = .ok (.putfield 20, 3) := by decide +kernel
theorem dX2_init_23 : decode cX2_init 23 = .ok (.aload_n 0, 1) := by decide +kernel
theorem dX2_init_24 : decode cX2_init 24 = .ok (.iconst 2, 1) := by decide +kernel
theorem dX2_init_25 : decode cX2_init 25 = .ok (.bipush 36, 2) := by decide +kernel
theorem dX2_init_27 : decode cX2_init 27 = .ok (.multianewarray 24 2, 4) := by decide +kernel
theorem dX2_init_31 : decode cX2_init 31 = .ok (.putfield 26, 3) := by decide +kernel
theorem dX2_init_34 : decode cX2_init 34 = .ok (.aload_n 0, 1) := by decide +kernel
theorem dX2_init_35 : decode cX2_init 35 = .ok (.aload_n 1, 1) := by decide +kernel
theorem dX2_init_36 : decode cX2_init 36 = .ok (.putfield 29, 3) := by decide +kernel
theorem dX2_init_39 : decode cX2_init 39 = .ok (.aload_n 0, 1) := by decide +kernel
theorem dX2_init_40 : decode cX2_init 40 = .ok (.aload_n 2, 1) := by decide +kernel
theorem dX2_init_41 : decode cX2_init 41 = .ok (.putfield 33, 3) := by decide +kernel
theorem dX2_init_44 : decode cX2_init 44 = .ok (.iconst 0, 1) := by decide +kernel
theorem dX2_init_45 : decode cX2_init 45 = .ok (.istore_n 3, 1) := by decide +kernel
theorem dX2_init_46 : decode cX2_init 46 = .ok (.iload_n 3, 1) := by decide +kernel
theorem dX2_init_47 : decode cX2_init 47 = .ok (.iconst 2, 1) := by decide +kernel
theorem dX2_init_48 : decode cX2_init 48 = .ok (.if_icmp .ge 30, 3) := by decide +kernel
theorem dX2_init_51 : decode cX2_init 51 = .ok (.aload_n 0, 1) := by decide +kernel
theorem dX2_init_52 : decode cX2_init 52 = .ok (.getfield 20, 3) := by decide +kernel
theorem dX2_init_55 : decode cX2_init 55 = .ok (.iload_n 3, 1) := by decide +kernel
theorem dX2_init_56 : decode cX2_init 56 = .ok (.new 18, 3) := by decide +kernel
theorem dX2_init_59 : decode cX2_init 59 = .ok (.dup, 1) := by decide +kernel
theorem dX2_init_60 : decode cX2_init 60 = .ok (.aload_n 1, 1) := by decide +kernel
theorem dX2_init_61 : decode cX2_init 61 = .ok (.getfield 37, 3) := by decide +kernel
theorem dX2_init_64 : decode cX2_init 64 = .ok (.aload_n 0, 1) := by decide +kernel
theorem dX2_init_65 : decode cX2_init 65 = .ok (.getfield 12, 3) := by decide +kernel
theorem dX2_init_68 : decode cX2_init 68 = .ok (.invokespecial 43, 3) := by decide +kernel
theorem dX2_init_71 : decode cX2_init 71 = .ok (.aastore, 1) := by decide +kernel
theorem dX2_init_72 : decode cX2_init 72 = .ok (.iinc 3 1, 3) := by decide +kernel
theorem dX2_init_75 : decode cX2_init 75 = .ok (.goto (-29), 3) := by decide +kernel
theorem dX2_init_78 : decode cX2_init 78 = .ok (.return_, 1) := by decide +kernel
theorem dX2_isOpen_0 : decode cX2_isOpen 0 = .ok (.iconst 0, 1) := by decide +kernel
theorem dX2_isOpen_1 : decode cX2_isOpen 1 = .ok (.istore_n 2, 1) := by decide +kernel
theorem dX2_isOpen_2 : decode cX2_isOpen 2 = .ok (.iload_n 2, 1) := by decide +kernel
theorem dX2_isOpen_3 : decode cX2_isOpen 3 = .ok (.aload_n 0, 1) := by decide +kernel
theorem dX2_isOpen_4 : decode cX2_isOpen 4 = .ok (.getfield 12, 3) := by decide +kernel
theorem dX2_isOpen_7 : decode cX2_isOpen 7 = .ok (.getfield 89, 3) := by decide +kernel
theorem dX2_isOpen_10 : decode cX2_isOpen 10 = .ok (.if_icmp .ge 41, 3) := by decide +kernel
theorem dX2_isOpen_13 : decode cX2_isOpen 13 = .ok (.iload_n 2, 1) := by decide +kernel
theorem dX2_isOpen_14 : decode cX2_isOpen 14 = .ok (.istore_n 3, 1) := by decide +kernel
theorem dX2_isOpen_15 : decode cX2_isOpen 15 = .ok (.iload_n 3, 1) := by decide +kernel
theorem dX2_isOpen_16 : decode cX2_isOpen 16 = .ok (.aload_n 0, 1) := by decide +kernel
theorem dX2_isOpen_17 : decode cX2_isOpen 17 = .ok (.getfield 12, 3) := by decide +kernel
theorem dX2_isOpen_20 : decode cX2_isOpen 20 = .ok (.getfield 89, 3) := by decide +kernel
theorem dX2_isOpen_23 : decode cX2_isOpen 23 = .ok (.if_icmp .ge 22, 3) := by decide +kernel
theorem dX2_isOpen_26 : decode cX2_isOpen 26 = .ok (.aload_n 1, 1) := by decide +kernel
theorem dX2_isOpen_27 : decode cX2_isOpen 27 = .ok (.bipush 6, 2) := by decide +kernel
theorem dX2_isOpen_29 : decode cX2_isOpen 29 = .ok (.iload_n 2, 1) := by decide +kernel
theorem dX2_isOpen_30 : decode cX2_isOpen 30 = .ok (.imul, 1) := by decide +kernel
theorem dX2_isOpen_31 : decode cX2_isOpen 31 = .ok (.iload_n 3, 1) := by decide +kernel
theorem dX2_isOpen_32 : decode cX2_isOpen 32 = .ok (.iadd, 1) := by decide +kernel
theorem dX2_isOpen_33 : decode cX2_isOpen 33 = .ok (.iaload, 1) := by decide +kernel
theorem dX2_isOpen_34 : decode cX2_isOpen 34 = .ok (.ifCond .eq 5, 3) := by decide +kernel
theorem dX2_isOpen_37 : decode cX2_isOpen 37 = .ok (.iconst 1, 1) := by decide +kernel
theorem dX2_isOpen_38 : decode cX2_isOpen 38 = .ok (.ireturn, 1) := by decide +kernel
theorem dX2_isOpen_39 : decode cX2_isOpen 39 = .ok (.iinc 3 1, 3) := by decide +kernel
theorem dX2_isOpen_42 : decode cX2_isOpen 42 = .ok (.goto (-27), 3) := by decide +kernel
theorem dX2_isOpen_45 : decode cX2_isOpen 45 = .ok (.iinc 2 1, 3) := by decide +kernel
theorem dX2_isOpen_48 : decode cX2_isOpen 48 = .ok (.goto (-46), 3) := by decide +kernel
theorem dX2_isOpen_51 : decode cX2_isOpen 51 = .ok (.iconst 0, 1) := by decide +kernel
theorem dX2_isOpen_52 : decode cX2_isOpen 52 = .ok (.ireturn, 1) := by decide +kernel
theorem dX2_isWon_0 : decode cX2_isWon 0 = .ok (.aload_n 0, 1) := by decide +kernel
theorem dX2_isWon_1 : decode cX2_isWon 1 = .ok (.getfield 12, 3) := by decide +kernel
theorem dX2_isWon_4 : decode cX2_isWon 4 = .ok (.aload_n 1, 1) := by decide +kernel
theorem dX2_isWon_5 : decode cX2_isWon 5 = .ok (.invokevirtual 46, 3) := by decide +kernel
theorem dX2_isWon_8 : decode cX2_isWon 8 = .ok (.aload_n 0, 1) := by decide +kernel
theorem dX2_isWon_9 : decode cX2_isWon 9 = .ok (.iload_n 2, 1) := by decide +kernel
theorem dX2_isWon_10 : decode cX2_isWon 10 = .ok (.invokevirtual 50, 3) := by decide +kernel
theorem dX2_isWon_13 : decode cX2_isWon 13 = .ok (.ireturn, 1) := by decide +kernel
theorem dX2_outlives_0 : decode cX2_outlives 0 = .ok (.iload_n 1, 1) := by decide +kernel
theorem dX2_outlives_1 : decode cX2_outlives 1 = .ok (.iconst 1, 1) := by decide +kernel
theorem dX2_outlives_2 : decode cX2_outlives 2 = .ok (.if_icmp .lt 8, 3) := by decide +kernel
theorem dX2_outlives_5 : decode cX2_outlives 5 = .ok (.iload_n 1, 1) := by decide +kernel
theorem dX2_outlives_6 : decode cX2_outlives 6 = .ok (.iconst 2, 1) := by decide +kernel
theorem dX2_outlives_7 : decode cX2_outlives 7 = .ok (.if_icmp .le 5, 3) := by decide +kernel
theorem dX2_outlives_10 : decode cX2_outlives 10 = .ok (.iconst 1, 1) := by decide +kernel
theorem dX2_outlives_11 : decode cX2_outlives 11 = .ok (.ireturn, 1) := by decide +kernel
theorem dX2_outlives_12 : decode cX2_outlives 12 = .ok (.aload_n 0, 1) := by decide +kernel
theorem dX2_outlives_13 : decode cX2_outlives 13 = .ok (.getfield 26, 3) := by decide +kernel
theorem dX2_outlives_16 : decode cX2_outlives 16 = .ok (.iload_n 1, 1) := by decide +kernel
theorem dX2_outlives_17 : decode cX2_outlives 17 = .ok (.iconst 1, 1) := by decide +kernel
theorem dX2_outlives_18 : decode cX2_outlives 18 = .ok (.isub, 1) := by decide +kernel
theorem dX2_outlives_19 : decode cX2_outlives 19 = .ok (.aaload, 1) := by decide +kernel
theorem dX2_outlives_20 : decode cX2_outlives 20 = .ok (.astore_n 2, 1) := by decide +kernel
theorem dX2_outlives_21 : decode cX2_outlives 21 = .ok (.aload_n 0, 1) := by decide +kernel
theorem dX2_outlives_22 : decode cX2_outlives 22 = .ok (.getfield 20, 3) := by decide +kernel
theorem dX2_outlives_25 : decode cX2_outlives 25 = .ok (.iload_n 1, 1) := by decide +kernel
theorem dX2_outlives_26 : decode cX2_outlives 26 = .ok (.iconst 1, 1) := by decide +kernel
theorem dX2_outlives_27 : decode cX2_outlives 27 = .ok (.isub, 1) := by decide +kernel
theorem dX2_outlives_28 : decode cX2_outlives 28 = .ok (.aaload, 1) := by decide +kernel
theorem dX2_outlives_29 : decode cX2_outlives 29 = .ok (.astore_n 3, 1) := by decide +kernel
theorem dX2_outlives_30 : decode cX2_outlives 30 = .ok (.aload_n 0, 1) := by decide +kernel
theorem dX2_outlives_31 : decode cX2_outlives 31 = .ok (.aload_n 2, 1) := by decide +kernel
theorem dX2_outlives_32 : decode cX2_outlives 32 = .ok (.invokevirtual 54, 3) := by decide +kernel
theorem dX2_outlives_35 : decode cX2_outlives 35 = .ok (.aload_n 3, 1) := by decide +kernel
theorem dX2_outlives_36 : decode cX2_outlives 36 = .ok (.invokevirtual 58, 3) := by decide +kernel
theorem dX2_outlives_39 : decode cX2_outlives 39 = .ok (.aload_n 0, 1) := by decide +kernel
theorem dX2_outlives_40 : decode cX2_outlives 40 = .ok (.aload_n 2, 1) := by decide +kernel
theorem dX2_outlives_41 : decode cX2_outlives 41 = .ok (.invokevirtual 61, 3) := by decide +kernel
theorem dX2_outlives_44 : decode cX2_outlives 44 = .ok (.istore 4, 2) := by decide +kernel
theorem dX2_outlives_46 : decode cX2_outlives 46 = .ok (.aload_n 3, 1) := by decide +kernel
theorem dX2_outlives_47 : decode cX2_outlives 47 = .ok (.invokevirtual 65, 3) := by decide +kernel
theorem dX2_outlives_50 : decode cX2_outlives 50 = .ok (.istore 5, 2) := by decide +kernel
theorem dX2_outlives_52 : decode cX2_outlives 52 = .ok (.iconst 0, 1) := by decide +kernel
theorem dX2_outlives_53 : decode cX2_outlives 53 = .ok (.istore 6, 2) := by decide +kernel
theorem dX2_outlives_55 : decode cX2_outlives 55 = .ok (.iload 6, 2) := by decide +kernel
theorem dX2_outlives_57 : decode cX2_outlives 57 = .ok (.ldc 69, 2) := by decide +kernel
theorem dX2_outlives_59 : decode cX2_outlives 59 = .ok (.if_icmp .ge 67, 3) := by decide +kernel
theorem dX2_outlives_62 : decode cX2_outlives 62 = .ok (.iload 5, 2) := by decide +kernel
theorem dX2_outlives_64 : decode cX2_outlives 64 = .ok (.ifCond .eq 62, 3) := by decide +kernel
theorem dX2_outlives_67 : decode cX2_outlives 67 = .ok (.iload 4, 2) := by decide +kernel
theorem dX2_outlives_69 : decode cX2_outlives 69 = .ok (.ifCond .eq 57, 3) := by decide +kernel
theorem dX2_outlives_72 : decode cX2_outlives 72 = .ok (.aload_n 0, 1) := by decide +kernel
theorem dX2_outlives_73 : decode cX2_outlives 73 = .ok (.aload_n 2, 1) := by decide +kernel
theorem dX2_outlives_74 : decode cX2_outlives 74 = .ok (.aload_n 3, 1) := by decide +kernel
theorem dX2_outlives_75 : decode cX2_outlives 75 = .ok (.getfield 70, 3) := by decide +kernel
theorem dX2_outlives_78 : decode cX2_outlives 78 = .ok (.invokevirtual 74, 3) := by decide +kernel
theorem dX2_outlives_81 : decode cX2_outlives 81 = .ok (.ifCond .eq 33, 3) := by decide +kernel
theorem dX2_outlives_84 : decode cX2_outlives 84 = .ok (.aload_n 0, 1) := by decide +kernel
theorem dX2_outlives_85 : decode cX2_outlives 85 = .ok (.aload_n 3, 1) := by decide +kernel
theorem dX2_outlives_86 : decode cX2_outlives 86 = .ok (.getfield 70, 3) := by decide +kernel
theorem dX2_outlives_89 : decode cX2_outlives 89 = .ok (.iload_n 1, 1) := by decide +kernel
theorem dX2_outlives_90 : decode cX2_outlives 90 = .ok (.iconst 1, 1) := by decide +kernel
theorem dX2_outlives_91 : decode cX2_outlives 91 = .ok (.isub, 1) := by decide +kernel
theorem dX2_outlives_92 : decode cX2_outlives 92 = .ok (.invokevirtual 78, 3) := by decide +kernel
theorem dX2_outlives_95 : decode cX2_outlives 95 = .ok (.ifCond .eq 19, 3) := by decide +kernel
theorem dX2_outlives_98 : decode cX2_outlives 98 = .ok (.aload_n 0, 1) := by decide +kernel
theorem dX2_outlives_99 : decode cX2_outlives 99 = .ok (.aload_n 2, 1) := by decide +kernel
theorem dX2_outlives_100 : decode cX2_outlives 100 = .ok (.aload_n 3, 1) := by decide +kernel
theorem dX2_outlives_101 : decode cX2_outlives 101 = .ok (.getfield 70, 3) := by decide +kernel
theorem dX2_outlives_104 : decode cX2_outlives 104 = .ok (.invokevirtual 82, 3) := by decide +kernel
theorem dX2_outlives_107 : decode cX2_outlives 107 = .ok (.aload_n 0, 1) := by decide +kernel
theorem dX2_outlives_108 : decode cX2_outlives 108 = .ok (.aload_n 2, 1) := by decide +kernel
theorem dX2_outlives_109 : decode cX2_outlives 109 = .ok (.invokevirtual 61, 3) := by decide +kernel
theorem dX2_outlives_112 : decode cX2_outlives 112 = .ok (.istore 4, 2) := by decide +kernel
theorem dX2_outlives_114 : decode cX2_outlives 114 = .ok (.aload_n 3, 1) := by decide +kernel
theorem dX2_outlives_115 : decode cX2_outlives 115 = .ok (.invokevirtual 86, 3) := by decide +kernel
theorem dX2_outlives_118 : decode cX2_outlives 118 = .ok (.istore 5, 2) := by decide +kernel
theorem dX2_outlives_120 : decode cX2_outlives 120 = .ok (.iinc 6 1, 3) := by decide +kernel
theorem dX2_outlives_123 : decode cX2_outlives 123 = .ok (.goto (-68), 3) := by decide +kernel
theorem dX2_outlives_126 : decode cX2_outlives 126 = .ok (.iload 4, 2) := by decide +kernel
theorem dX2_outlives_128 : decode cX2_outlives 128 = .ok (.ifCond .ne 7, 3) := by decide +kernel
theorem dX2_outlives_131 : decode cX2_outlives 131 = .ok (.iconst 1, 1) := by decide +kernel
theorem dX2_outlives_132 : decode cX2_outlives 132 = .ok (.goto 4, 3) := by decide +kernel
theorem dX2_outlives_135 : decode cX2_outlives 135 = .ok (.iconst 0, 1) := by decide +kernel
theorem dX2_outlives_136 : decode cX2_outlives 136 = .ok (.ireturn, 1) := by decide +kernel
theorem dX2_stands_0 : decode cX2_stands 0 = .ok (.aload_n 0, 1) := by decide +kernel
theorem dX2_stands_1 : decode cX2_stands 1 = .ok (.getfield 12, 3) := by decide +kernel
theorem dX2_stands_4 : decode cX2_stands 4 = .ok (.aload_n 1, 1) := by decide +kernel
theorem dX2_stands_5 : decode cX2_stands 5 = .ok (.aload_n 0, 1) := by decide +kernel
theorem dX2_stands_6 : decode cX2_stands 6 = .ok (.getfield 29, 3) := by decide +kernel
theorem dX2_stands_9 : decode cX2_stands 9 = .ok (.getfield 37, 3) := by decide +kernel
theorem dX2_stands_12 : decode cX2_stands 12 = .ok (.invokevirtual 102, 3) := by decide +kernel
theorem dX2_stands_15 : decode cX2_stands 15 = .ok (.aload_n 0, 1) := by decide +kernel
theorem dX2_stands_16 : decode cX2_stands 16 = .ok (.getfield 33, 3) := by decide +kernel
theorem dX2_stands_19 : decode cX2_stands 19 = .ok (.aload_n 0, 1) := by decide +kernel
theorem dX2_stands_20 : decode cX2_stands 20 = .ok (.getfield 12, 3) := by decide +kernel
theorem dX2_stands_23 : decode cX2_stands 23 = .ok (.invokevirtual 106, 3) := by decide +kernel
theorem dX2_stands_26 : decode cX2_stands 26 = .ok (.ifCond .ne 15, 3) := by decide +kernel
theorem dX2_stands_29 : decode cX2_stands 29 = .ok (.aload_n 0, 1) := by decide +kernel
theorem dX2_stands_30 : decode cX2_stands 30 = .ok (.iload_n 2, 1) := by decide +kernel
theorem dX2_stands_31 : decode cX2_stands 31 = .ok (.invokevirtual 50, 3) := by decide +kernel
theorem dX2_stands_34 : decode cX2_stands 34 = .ok (.ifCond .eq 7, 3) := by decide +kernel
theorem dX2_stands_37 : decode cX2_stands 37 = .ok (.iconst 1, 1) := by decide +kernel
theorem dX2_stands_38 : decode cX2_stands 38 = .ok (.goto 4, 3) := by decide +kernel
theorem dX2_stands_41 : decode cX2_stands 41 = .ok (.iconst 0, 1) := by decide +kernel
theorem dX2_stands_42 : decode cX2_stands 42 = .ok (.istore_n 3, 1) := by decide +kernel
theorem dX2_stands_43 : decode cX2_stands 43 = .ok (.aload_n 0, 1) := by decide +kernel
theorem dX2_stands_44 : decode cX2_stands 44 = .ok (.getfield 12, 3) := by decide +kernel
theorem dX2_stands_47 : decode cX2_stands 47 = .ok (.dup, 1) := by decide +kernel
theorem dX2_stands_48 : decode cX2_stands 48 = .ok (.getfield 89, 3) := by decide +kernel
theorem dX2_stands_51 : decode cX2_stands 51 = .ok (.iconst 1, 1) := by decide +kernel
theorem dX2_stands_52 : decode cX2_stands 52 = .ok (.isub, 1) := by decide +kernel
theorem dX2_stands_53 : decode cX2_stands 53 = .ok (.putfield 89, 3) := by decide +kernel
theorem dX2_stands_56 : decode cX2_stands 56 = .ok (.iload_n 3, 1) := by decide +kernel
theorem dX2_stands_57 : decode cX2_stands 57 = .ok (.ireturn, 1) := by decide +kernel
theorem dX2_strike_0 : decode cX2_strike 0 = .ok (.aload_n 0, 1) := by decide +kernel
theorem dX2_strike_1 : decode cX2_strike 1 = .ok (.getfield 29, 3) := by decide +kernel
theorem dX2_strike_4 : decode cX2_strike 4 = .ok (.getfield 37, 3) := by decide +kernel
theorem dX2_strike_7 : decode cX2_strike 7 = .ok (.getfield 97, 3) := by decide +kernel
theorem dX2_strike_10 : decode cX2_strike 10 = .ok (.astore_n 3, 1) := by decide +kernel
theorem dX2_strike_11 : decode cX2_strike 11 = .ok (.iconst 0, 1) := by decide +kernel
theorem dX2_strike_12 : decode cX2_strike 12 = .ok (.istore 4, 2) := by decide +kernel
theorem dX2_strike_14 : decode cX2_strike 14 = .ok (.iload 4, 2) := by decide +kernel
theorem dX2_strike_16 : decode cX2_strike 16 = .ok (.aload_n 0, 1) := by decide +kernel
theorem dX2_strike_17 : decode cX2_strike 17 = .ok (.getfield 12, 3) := by decide +kernel
theorem dX2_strike_20 : decode cX2_strike 20 = .ok (.getfield 89, 3) := by decide +kernel
theorem dX2_strike_23 : decode cX2_strike 23 = .ok (.if_icmp .ge 61, 3) := by decide +kernel
theorem dX2_strike_26 : decode cX2_strike 26 = .ok (.iload 4, 2) := by decide +kernel
theorem dX2_strike_28 : decode cX2_strike 28 = .ok (.istore 5, 2) := by decide +kernel
theorem dX2_strike_30 : decode cX2_strike 30 = .ok (.iload 5, 2) := by decide +kernel
theorem dX2_strike_32 : decode cX2_strike 32 = .ok (.aload_n 0, 1) := by decide +kernel
theorem dX2_strike_33 : decode cX2_strike 33 = .ok (.getfield 12, 3) := by decide +kernel
theorem dX2_strike_36 : decode cX2_strike 36 = .ok (.getfield 89, 3) := by decide +kernel
theorem dX2_strike_39 : decode cX2_strike 39 = .ok (.if_icmp .ge 39, 3) := by decide +kernel
theorem dX2_strike_42 : decode cX2_strike 42 = .ok (.aload_n 1, 1) := by decide +kernel
theorem dX2_strike_43 : decode cX2_strike 43 = .ok (.bipush 6, 2) := by decide +kernel
theorem dX2_strike_45 : decode cX2_strike 45 = .ok (.iload 4, 2) := by decide +kernel
theorem dX2_strike_47 : decode cX2_strike 47 = .ok (.imul, 1) := by decide +kernel
theorem dX2_strike_48 : decode cX2_strike 48 = .ok (.iload 5, 2) := by decide +kernel
theorem dX2_strike_50 : decode cX2_strike 50 = .ok (.iadd, 1) := by decide +kernel
theorem dX2_strike_51 : decode cX2_strike 51 = .ok (.dup2, 1) := by decide +kernel
theorem dX2_strike_52 : decode cX2_strike 52 = .ok (.iaload, 1) := by decide +kernel
theorem dX2_strike_53 : decode cX2_strike 53 = .ok (.iconst 1, 1) := by decide +kernel
theorem dX2_strike_54 : decode cX2_strike 54 = .ok (.iconst 4, 1) := by decide +kernel
theorem dX2_strike_55 : decode cX2_strike 55 = .ok (.aload_n 2, 1) := by decide +kernel
theorem dX2_strike_56 : decode cX2_strike 56 = .ok (.iload 4, 2) := by decide +kernel
theorem dX2_strike_58 : decode cX2_strike 58 = .ok (.iaload, 1) := by decide +kernel
theorem dX2_strike_59 : decode cX2_strike 59 = .ok (.imul, 1) := by decide +kernel
theorem dX2_strike_60 : decode cX2_strike 60 = .ok (.aload_n 3, 1) := by decide +kernel
theorem dX2_strike_61 : decode cX2_strike 61 = .ok (.aload_n 2, 1) := by decide +kernel
theorem dX2_strike_62 : decode cX2_strike 62 = .ok (.iload 5, 2) := by decide +kernel
theorem dX2_strike_64 : decode cX2_strike 64 = .ok (.iaload, 1) := by decide +kernel
theorem dX2_strike_65 : decode cX2_strike 65 = .ok (.iaload, 1) := by decide +kernel
theorem dX2_strike_66 : decode cX2_strike 66 = .ok (.iadd, 1) := by decide +kernel
theorem dX2_strike_67 : decode cX2_strike 67 = .ok (.ishl, 1) := by decide +kernel
theorem dX2_strike_68 : decode cX2_strike 68 = .ok (.iconst (-1), 1) := by decide +kernel
theorem dX2_strike_69 : decode cX2_strike 69 = .ok (.ixor, 1) := by decide +kernel
theorem dX2_strike_70 : decode cX2_strike 70 = .ok (.iand, 1) := by decide +kernel
theorem dX2_strike_71 : decode cX2_strike 71 = .ok (.iastore, 1) := by decide +kernel
theorem dX2_strike_72 : decode cX2_strike 72 = .ok (.iinc 5 1, 3) := by decide +kernel
theorem dX2_strike_75 : decode cX2_strike 75 = .ok (.goto (-45), 3) := by decide +kernel
theorem dX2_strike_78 : decode cX2_strike 78 = .ok (.iinc 4 1, 3) := by decide +kernel
theorem dX2_strike_81 : decode cX2_strike 81 = .ok (.goto (-67), 3) := by decide +kernel
theorem dX2_strike_84 : decode cX2_strike 84 = .ok (.return_, 1) := by decide +kernel
theorem dX3_at_0 : decode cX3_at 0 = .ok (.aload_n 0, 1) := by decide +kernel
theorem dX3_at_1 : decode cX3_at 1 = .ok (.getfield 15, 3) := by decide +kernel
theorem dX3_at_4 : decode cX3_at 4 = .ok (.bipush 6, 2) := by decide +kernel
theorem dX3_at_6 : decode cX3_at 6 = .ok (.iload_n 1, 1) := by decide +kernel
theorem dX3_at_7 : decode cX3_at 7 = .ok (.imul, 1) := by decide +kernel
theorem dX3_at_8 : decode cX3_at 8 = .ok (.iload_n 2, 1) := by decide +kernel
theorem dX3_at_9 : decode cX3_at 9 = .ok (.iadd, 1) := by decide +kernel
theorem dX3_at_10 : decode cX3_at 10 = .ok (.iaload, 1) := by decide +kernel
theorem dX3_at_11 : decode cX3_at 11 = .ok (.ireturn, 1) := by decide +kernel
theorem dX3_become_0 : decode cX3_become 0 = .ok (.aload_n 0, 1) := by decide +kernel
theorem dX3_become_1 : decode cX3_become 1 = .ok (.aload_n 1, 1) := by decide +kernel
theorem dX3_become_2 : decode cX3_become 2 = .ok (.getfield 9, 3) := by decide +kernel
theorem dX3_become_5 : decode cX3_become 5 = .ok (.putfield 9, 3) := by decide +kernel
theorem dX3_become_8 : decode cX3_become 8 = .ok (.iconst 0, 1) := by decide +kernel
theorem dX3_become_9 : decode cX3_become 9 = .ok (.istore_n 2, 1) := by decide +kernel
theorem dX3_become_10 : decode cX3_become 10 = .ok (.iload_n 2, 1) := by decide +kernel
theorem dX3_become_11 : decode cX3_become 11 = .ok (.aload_n 0, 1) := by decide +kernel
theorem dX3_become_12 : decode cX3_become 12 = .ok (.getfield 15, 3) := by decide +kernel
theorem dX3_become_15 : decode cX3_become 15 = .ok (.arraylength, 1) := by decide +kernel
theorem dX3_become_16 : decode cX3_become 16 = .ok (.if_icmp .ge 21, 3) := by decide +kernel
theorem dX3_become_19 : decode cX3_become 19 = .ok (.aload_n 0, 1) := by decide +kernel
theorem dX3_become_20 : decode cX3_become 20 = .ok (.getfield 15, 3) := by decide +kernel
theorem dX3_become_23 : decode cX3_become 23 = .ok (.iload_n 2, 1) := by decide +kernel
theorem dX3_become_24 : decode cX3_become 24 = .ok (.aload_n 1, 1) := by decide +kernel
theorem dX3_become_25 : decode cX3_become 25 = .ok (.getfield 15, 3) := by decide +kernel
theorem dX3_become_28 : decode cX3_become 28 = .ok (.iload_n 2, 1) := by decide +kernel
theorem dX3_become_29 : decode cX3_become 29 = .ok (.iaload, 1) := by decide +kernel
theorem dX3_become_30 : decode cX3_become 30 = .ok (.iastore, 1) := by decide +kernel
theorem dX3_become_31 : decode cX3_become 31 = .ok (.iinc 2 1, 3) := by decide +kernel
theorem dX3_become_34 : decode cX3_become 34 = .ok (.goto (-24), 3) := by decide +kernel
theorem dX3_become_37 : decode cX3_become 37 = .ok (.return_, 1) := by decide +kernel
theorem dX3_gapAt_0 : decode cX3_gapAt 0 = .ok (.iconst 0, 1) := by decide +kernel
theorem dX3_gapAt_1 : decode cX3_gapAt 1 = .ok (.istore_n 3, 1) := by decide +kernel
theorem dX3_gapAt_2 : decode cX3_gapAt 2 = .ok (.iconst 0, 1) := by decide +kernel
theorem dX3_gapAt_3 : decode cX3_gapAt 3 = .ok (.istore 4, 2) := by decide +kernel
theorem dX3_gapAt_5 : decode cX3_gapAt 5 = .ok (.iload 4, 2) := by decide +kernel
theorem dX3_gapAt_7 : decode cX3_gapAt 7 = .ok (.aload_n 0, 1) := by decide +kernel
theorem dX3_gapAt_8 : decode cX3_gapAt 8 = .ok (.getfield 9, 3) := by decide +kernel
theorem dX3_gapAt_11 : decode cX3_gapAt 11 = .ok (.if_icmp .ge 80, 3) := by decide +kernel
theorem dX3_gapAt_14 : decode cX3_gapAt 14 = .ok (.iload 4, 2) := by decide +kernel
theorem dX3_gapAt_16 : decode cX3_gapAt 16 = .ok (.istore 5, 2) := by decide +kernel
theorem dX3_gapAt_18 : decode cX3_gapAt 18 = .ok (.iload 5, 2) := by decide +kernel
theorem dX3_gapAt_20 : decode cX3_gapAt 20 = .ok (.aload_n 0, 1) := by decide +kernel
theorem dX3_gapAt_21 : decode cX3_gapAt 21 = .ok (.getfield 9, 3) := by decide +kernel
theorem dX3_gapAt_24 : decode cX3_gapAt 24 = .ok (.if_icmp .ge 61, 3) := by decide +kernel
theorem dX3_gapAt_27 : decode cX3_gapAt 27 = .ok (.aload_n 0, 1) := by decide +kernel
theorem dX3_gapAt_28 : decode cX3_gapAt 28 = .ok (.aload_n 1, 1) := by decide +kernel
theorem dX3_gapAt_29 : decode cX3_gapAt 29 = .ok (.iload 4, 2) := by decide +kernel
theorem dX3_gapAt_31 : decode cX3_gapAt 31 = .ok (.iload 5, 2) := by decide +kernel
theorem dX3_gapAt_33 : decode cX3_gapAt 33 = .ok (.invokevirtual 37, 3) := by decide +kernel
theorem dX3_gapAt_36 : decode cX3_gapAt 36 = .ok (.istore 6, 2) := by decide +kernel
theorem dX3_gapAt_38 : decode cX3_gapAt 38 = .ok (.iload 6, 2) := by decide +kernel
theorem dX3_gapAt_40 : decode cX3_gapAt 40 = .ok (.invokestatic 41, 3) := by decide +kernel
theorem dX3_gapAt_43 : decode cX3_gapAt 43 = .ok (.istore 7, 2) := by decide +kernel
theorem dX3_gapAt_45 : decode cX3_gapAt 45 = .ok (.iload_n 2, 1) := by decide +kernel
theorem dX3_gapAt_46 : decode cX3_gapAt 46 = .ok (.iload_n 3, 1) := by decide +kernel
theorem dX3_gapAt_47 : decode cX3_gapAt 47 = .ok (.if_icmp .lt 27, 3) := by decide +kernel
theorem dX3_gapAt_50 : decode cX3_gapAt 50 = .ok (.iload_n 2, 1) := by decide +kernel
theorem dX3_gapAt_51 : decode cX3_gapAt 51 = .ok (.iload_n 3, 1) := by decide +kernel
theorem dX3_gapAt_52 : decode cX3_gapAt 52 = .ok (.iload 7, 2) := by decide +kernel
theorem dX3_gapAt_54 : decode cX3_gapAt 54 = .ok (.iadd, 1) := by decide +kernel
theorem dX3_gapAt_55 : decode cX3_gapAt 55 = .ok (.if_icmp .ge 19, 3) := by decide +kernel
theorem dX3_gapAt_58 : decode cX3_gapAt 58 = .ok (.iload 4, 2) := by decide +kernel
theorem dX3_gapAt_60 : decode cX3_gapAt 60 = .ok (.iload 5, 2) := by decide +kernel
theorem dX3_gapAt_62 : decode cX3_gapAt 62 = .ok (.iload 6, 2) := by decide +kernel
theorem dX3_gapAt_64 : decode cX3_gapAt 64 = .ok (.iload_n 2, 1) := by decide +kernel
theorem dX3_gapAt_65 : decode cX3_gapAt 65 = .ok (.iload_n 3, 1) := by decide +kernel
theorem dX3_gapAt_66 : decode cX3_gapAt 66 = .ok (.isub, 1) := by decide +kernel
theorem dX3_gapAt_67 : decode cX3_gapAt 67 = .ok (.invokestatic 47, 3) := by decide +kernel
theorem dX3_gapAt_70 : decode cX3_gapAt 70 = .ok (.invokestatic 50, 3) := by decide +kernel
theorem dX3_gapAt_73 : decode cX3_gapAt 73 = .ok (.ireturn, 1) := by decide +kernel
theorem dX3_gapAt_74 : decode cX3_gapAt 74 = .ok (.iload_n 3, 1) := by decide +kernel
theorem dX3_gapAt_75 : decode cX3_gapAt 75 = .ok (.iload 7, 2) := by decide +kernel
theorem dX3_gapAt_77 : decode cX3_gapAt 77 = .ok (.iadd, 1) := by decide +kernel
theorem dX3_gapAt_78 : decode cX3_gapAt 78 = .ok (.istore_n 3, 1) := by decide +kernel
theorem dX3_gapAt_79 : decode cX3_gapAt 79 = .ok (.iinc 5 1, 3) := by decide +kernel
theorem dX3_gapAt_82 : decode cX3_gapAt 82 = .ok (.goto (-64), 3) := by decide +kernel
theorem dX3_gapAt_85 : decode cX3_gapAt 85 = .ok (.iinc 4 1, 3) := by decide +kernel
theorem dX3_gapAt_88 : decode cX3_gapAt 88 = .ok (.goto (-83), 3) := by decide +kernel
theorem dX3_gapAt_91 : decode cX3_gapAt 91 = .ok (.iload_n 2, 1) := by decide +kernel
theorem dX3_gapAt_92 : decode cX3_gapAt 92 = .ok (.iconst (-1), 1) := by decide +kernel
theorem dX3_gapAt_93 : decode cX3_gapAt 93 = .ok (.if_icmp .ne 7, 3) := by decide +kernel
theorem dX3_gapAt_96 : decode cX3_gapAt 96 = .ok (.iload_n 3, 1) := by decide +kernel
theorem dX3_gapAt_97 : decode cX3_gapAt 97 = .ok (.goto 4, 3) := by decide +kernel
theorem dX3_gapAt_100 : decode cX3_gapAt 100 = .ok (.iconst (-1), 1) := by decide +kernel
theorem dX3_gapAt_101 : decode cX3_gapAt 101 = .ok (.ireturn, 1) := by decide +kernel
theorem dX3_gapNumber_0 : decode cX3_gapNumber 0 = .ok (.sipush 1000, 3) := by decide +kernel
theorem dX3_gapNumber_3 : decode cX3_gapNumber 3 = .ok (.iload_n 0, 1) := by decide +kernel
theorem dX3_gapNumber_4 : decode cX3_gapNumber 4 = .ok (.imul, 1) := by decide +kernel
theorem dX3_gapNumber_5 : decode cX3_gapNumber 5 = .ok (.bipush 100, 2) := by decide +kernel
theorem dX3_gapNumber_7 : decode cX3_gapNumber 7 = .ok (.iload_n 1, 1) := by decide +kernel
theorem dX3_gapNumber_8 : decode cX3_gapNumber 8 = .ok (.imul, 1) := by decide +kernel
theorem dX3_gapNumber_9 : decode cX3_gapNumber 9 = .ok (.iadd, 1) := by decide +kernel
theorem dX3_gapNumber_10 : decode cX3_gapNumber 10 = .ok (.bipush 10, 2) := by decide +kernel
theorem dX3_gapNumber_12 : decode cX3_gapNumber 12 = .ok (.iload_n 2, 1) := by decide +kernel
theorem dX3_gapNumber_13 : decode cX3_gapNumber 13 = .ok (.iconst 2, 1) := by decide +kernel
theorem dX3_gapNumber_14 : decode cX3_gapNumber 14 = .ok (.ishr, 1) := by decide +kernel
theorem dX3_gapNumber_15 : decode cX3_gapNumber 15 = .ok (.imul, 1) := by decide +kernel
theorem dX3_gapNumber_16 : decode cX3_gapNumber 16 = .ok (.iadd, 1) := by decide +kernel
theorem dX3_gapNumber_17 : decode cX3_gapNumber 17 = .ok (.iload_n 2, 1) := by decide +kernel
theorem dX3_gapNumber_18 : decode cX3_gapNumber 18 = .ok (.iconst 3, 1) := by decide +kernel
theorem dX3_gapNumber_19 : decode cX3_gapNumber 19 = .ok (.iand, 1) := by decide +kernel
theorem dX3_gapNumber_20 : decode cX3_gapNumber 20 = .ok (.iadd, 1) := by decide +kernel
theorem dX3_gapNumber_21 : decode cX3_gapNumber 21 = .ok (.ireturn, 1) := by decide +kernel
theorem dX3_grow_0 : decode cX3_grow 0 = .ok (.iconst 0, 1) := by decide +kernel
theorem dX3_grow_1 : decode cX3_grow 1 = .ok (.istore_n 3, 1) := by decide +kernel
theorem dX3_grow_2 : decode cX3_grow 2 = .ok (.iload_n 3, 1) := by decide +kernel
theorem dX3_grow_3 : decode cX3_grow 3 = .ok (.aload_n 0, 1) := by decide +kernel
theorem dX3_grow_4 : decode cX3_grow 4 = .ok (.getfield 9, 3) := by decide +kernel
theorem dX3_grow_7 : decode cX3_grow 7 = .ok (.if_icmp .ge 22, 3) := by decide +kernel
theorem dX3_grow_10 : decode cX3_grow 10 = .ok (.aload_n 0, 1) := by decide +kernel
theorem dX3_grow_11 : decode cX3_grow 11 = .ok (.iload_n 3, 1) := by decide +kernel
theorem dX3_grow_12 : decode cX3_grow 12 = .ok (.aload_n 0, 1) := by decide +kernel
theorem dX3_grow_13 : decode cX3_grow 13 = .ok (.getfield 9, 3) := by decide +kernel
theorem dX3_grow_16 : decode cX3_grow 16 = .ok (.aload_n 1, 1) := by decide +kernel
theorem dX3_grow_17 : decode cX3_grow 17 = .ok (.iload_n 3, 1) := by decide +kernel
theorem dX3_grow_18 : decode cX3_grow 18 = .ok (.iaload, 1) := by decide +kernel
theorem dX3_grow_19 : decode cX3_grow 19 = .ok (.aload_n 2, 1) := by decide +kernel
theorem dX3_grow_20 : decode cX3_grow 20 = .ok (.invokevirtual 24, 3) := by decide +kernel
theorem dX3_grow_23 : decode cX3_grow 23 = .ok (.iinc 3 1, 3) := by decide +kernel
theorem dX3_grow_26 : decode cX3_grow 26 = .ok (.goto (-24), 3) := by decide +kernel
theorem dX3_grow_29 : decode cX3_grow 29 = .ok (.aload_n 0, 1) := by decide +kernel
theorem dX3_grow_30 : decode cX3_grow 30 = .ok (.dup, 1) := by decide +kernel
theorem dX3_grow_31 : decode cX3_grow 31 = .ok (.getfield 9, 3) := by decide +kernel
theorem dX3_grow_34 : decode cX3_grow 34 = .ok (.iconst 1, 1) := by decide +kernel
theorem dX3_grow_35 : decode cX3_grow 35 = .ok (.iadd, 1) := by decide +kernel
theorem dX3_grow_36 : decode cX3_grow 36 = .ok (.putfield 9, 3) := by decide +kernel
theorem dX3_grow_39 : decode cX3_grow 39 = .ok (.return_, 1) := by decide +kernel
theorem dX3_init_0 : decode cX3_init 0 = .ok (.aload_n 0, 1) := by decide +kernel
theorem dX3_init_1 : decode cX3_init 1 = .ok (.invokespecial 3, 3) := by decide +kernel
theorem dX3_init_4 : decode cX3_init 4 = .ok (.aload_n 0, 1) := by decide +kernel
theorem dX3_init_5 : decode cX3_init 5 = .ok (.iconst 0, 1) := by decide +kernel
theorem dX3_init_6 : decode cX3_init 6 = .ok (.putfield 9, 3) := by decide +kernel
theorem dX3_init_9 : decode cX3_init 9 = .ok (.aload_n 0, 1) := by decide +kernel
theorem dX3_init_10 : decode cX3_init 10 = .ok (.bipush 36, 2) := by decide +kernel
theorem dX3_init_12 : decode cX3_init 12 = .ok (.newarray .int, 2) := by decide +kernel
theorem dX3_init_14 : decode cX3_init 14 = .ok (.putfield 15, 3) := by decide +kernel
theorem dX3_init_17 : decode cX3_init 17 = .ok (.return_, 1) := by decide +kernel
theorem dX3_lacks_0 : decode cX3_lacks 0 = .ok (.iload_n 2, 1) := by decide +kernel
theorem dX3_lacks_1 : decode cX3_lacks 1 = .ok (.sipush 1000, 3) := by decide +kernel
theorem dX3_lacks_4 : decode cX3_lacks 4 = .ok (.idiv, 1) := by decide +kernel
theorem dX3_lacks_5 : decode cX3_lacks 5 = .ok (.istore_n 3, 1) := by decide +kernel
theorem dX3_lacks_6 : decode cX3_lacks 6 = .ok (.iload_n 2, 1) := by decide +kernel
theorem dX3_lacks_7 : decode cX3_lacks 7 = .ok (.bipush 100, 2) := by decide +kernel
theorem dX3_lacks_9 : decode cX3_lacks 9 = .ok (.idiv, 1) := by decide +kernel
theorem dX3_lacks_10 : decode cX3_lacks 10 = .ok (.bipush 10, 2) := by decide +kernel
theorem dX3_lacks_12 : decode cX3_lacks 12 = .ok (.irem, 1) := by decide +kernel
theorem dX3_lacks_13 : decode cX3_lacks 13 = .ok (.istore 4, 2) := by decide +kernel
theorem dX3_lacks_15 : decode cX3_lacks 15 = .ok (.iload_n 2, 1) := by decide +kernel
theorem dX3_lacks_16 : decode cX3_lacks 16 = .ok (.bipush 10, 2) := by decide +kernel
theorem dX3_lacks_18 : decode cX3_lacks 18 = .ok (.idiv, 1) := by decide +kernel
theorem dX3_lacks_19 : decode cX3_lacks 19 = .ok (.bipush 10, 2) := by decide +kernel
theorem dX3_lacks_21 : decode cX3_lacks 21 = .ok (.irem, 1) := by decide +kernel
theorem dX3_lacks_22 : decode cX3_lacks 22 = .ok (.istore 5, 2) := by decide +kernel
theorem dX3_lacks_24 : decode cX3_lacks 24 = .ok (.iload_n 2, 1) := by decide +kernel
theorem dX3_lacks_25 : decode cX3_lacks 25 = .ok (.bipush 10, 2) := by decide +kernel
theorem dX3_lacks_27 : decode cX3_lacks 27 = .ok (.irem, 1) := by decide +kernel
theorem dX3_lacks_28 : decode cX3_lacks 28 = .ok (.istore 6, 2) := by decide +kernel
theorem dX3_lacks_30 : decode cX3_lacks 30 = .ok (.iload_n 2, 1) := by decide +kernel
theorem dX3_lacks_31 : decode cX3_lacks 31 = .ok (.ifCond .lt 36, 3) := by decide +kernel
theorem dX3_lacks_34 : decode cX3_lacks 34 = .ok (.iload_n 3, 1) := by decide +kernel
theorem dX3_lacks_35 : decode cX3_lacks 35 = .ok (.iload 4, 2) := by decide +kernel
theorem dX3_lacks_37 : decode cX3_lacks 37 = .ok (.if_icmp .gt 30, 3) := by decide +kernel
theorem dX3_lacks_40 : decode cX3_lacks 40 = .ok (.iload 4, 2) := by decide +kernel
theorem dX3_lacks_42 : decode cX3_lacks 42 = .ok (.aload_n 0, 1) := by decide +kernel
theorem dX3_lacks_43 : decode cX3_lacks 43 = .ok (.getfield 9, 3) := by decide +kernel
theorem dX3_lacks_46 : decode cX3_lacks 46 = .ok (.if_icmp .ge 21, 3) := by decide +kernel
theorem dX3_lacks_49 : decode cX3_lacks 49 = .ok (.iload 5, 2) := by decide +kernel
theorem dX3_lacks_51 : decode cX3_lacks 51 = .ok (.aload_n 1, 1) := by decide +kernel
theorem dX3_lacks_52 : decode cX3_lacks 52 = .ok (.getfield 36, 3) := by decide +kernel
theorem dX3_lacks_55 : decode cX3_lacks 55 = .ok (.if_icmp .ge 12, 3) := by decide +kernel
theorem dX3_lacks_58 : decode cX3_lacks 58 = .ok (.iload 6, 2) := by decide +kernel
theorem dX3_lacks_60 : decode cX3_lacks 60 = .ok (.aload_n 1, 1) := by decide +kernel
theorem dX3_lacks_61 : decode cX3_lacks 61 = .ok (.getfield 36, 3) := by decide +kernel
theorem dX3_lacks_64 : decode cX3_lacks 64 = .ok (.if_icmp .lt 5, 3) := by decide +kernel
theorem dX3_lacks_67 : decode cX3_lacks 67 = .ok (.iconst 0, 1) := by decide +kernel
theorem dX3_lacks_68 : decode cX3_lacks 68 = .ok (.ireturn, 1) := by decide +kernel
theorem dX3_lacks_69 : decode cX3_lacks 69 = .ok (.aload_n 0, 1) := by decide +kernel
theorem dX3_lacks_70 : decode cX3_lacks 70 = .ok (.aload_n 1, 1) := by decide +kernel
theorem dX3_lacks_71 : decode cX3_lacks 71 = .ok (.iload_n 3, 1) := by decide +kernel
theorem dX3_lacks_72 : decode cX3_lacks 72 = .ok (.iload 4, 2) := by decide +kernel
theorem dX3_lacks_74 : decode cX3_lacks 74 = .ok (.invokevirtual 37, 3) := by decide +kernel
theorem dX3_lacks_77 : decode cX3_lacks 77 = .ok (.iconst 4, 1) := by decide +kernel
theorem dX3_lacks_78 : decode cX3_lacks 78 = .ok (.iload 5, 2) := by decide +kernel
theorem dX3_lacks_80 : decode cX3_lacks 80 = .ok (.imul, 1) := by decide +kernel
theorem dX3_lacks_81 : decode cX3_lacks 81 = .ok (.iload 6, 2) := by decide +kernel
theorem dX3_lacks_83 : decode cX3_lacks 83 = .ok (.iadd, 1) := by decide +kernel
theorem dX3_lacks_84 : decode cX3_lacks 84 = .ok (.ishr, 1) := by decide +kernel
theorem dX3_lacks_85 : decode cX3_lacks 85 = .ok (.iconst 1, 1) := by decide +kernel
theorem dX3_lacks_86 : decode cX3_lacks 86 = .ok (.iand, 1) := by decide +kernel
theorem dX3_lacks_87 : decode cX3_lacks 87 = .ok (.iconst 1, 1) := by decide +kernel
theorem dX3_lacks_88 : decode cX3_lacks 88 = .ok (.if_icmp .ne 7, 3) := by decide +kernel
theorem dX3_lacks_91 : decode cX3_lacks 91 = .ok (.iconst 1, 1) := by decide +kernel
theorem dX3_lacks_92 : decode cX3_lacks 92 = .ok (.goto 4, 3) := by decide +kernel
theorem dX3_lacks_95 : decode cX3_lacks 95 = .ok (.iconst 0, 1) := by decide +kernel
theorem dX3_lacks_96 : decode cX3_lacks 96 = .ok (.ireturn, 1) := by decide +kernel
theorem dX3_link_0 : decode cX3_link 0 = .ok (.aload_n 0, 1) := by decide +kernel
theorem dX3_link_1 : decode cX3_link 1 = .ok (.getfield 15, 3) := by decide +kernel
theorem dX3_link_4 : decode cX3_link 4 = .ok (.bipush 6, 2) := by decide +kernel
theorem dX3_link_6 : decode cX3_link 6 = .ok (.iload_n 1, 1) := by decide +kernel
theorem dX3_link_7 : decode cX3_link 7 = .ok (.imul, 1) := by decide +kernel
theorem dX3_link_8 : decode cX3_link 8 = .ok (.iload_n 2, 1) := by decide +kernel
theorem dX3_link_9 : decode cX3_link 9 = .ok (.iadd, 1) := by decide +kernel
theorem dX3_link_10 : decode cX3_link 10 = .ok (.iload_n 3, 1) := by decide +kernel
theorem dX3_link_11 : decode cX3_link 11 = .ok (.iastore, 1) := by decide +kernel
theorem dX3_link_12 : decode cX3_link 12 = .ok (.aload_n 0, 1) := by decide +kernel
theorem dX3_link_13 : decode cX3_link 13 = .ok (.getfield 15, 3) := by decide +kernel
theorem dX3_link_16 : decode cX3_link 16 = .ok (.bipush 6, 2) := by decide +kernel
theorem dX3_link_18 : decode cX3_link 18 = .ok (.iload_n 2, 1) := by decide +kernel
theorem dX3_link_19 : decode cX3_link 19 = .ok (.imul, 1) := by decide +kernel
theorem dX3_link_20 : decode cX3_link 20 = .ok (.iload_n 1, 1) := by decide +kernel
theorem dX3_link_21 : decode cX3_link 21 = .ok (.iadd, 1) := by decide +kernel
theorem dX3_link_22 : decode cX3_link 22 = .ok (.aload 4, 2) := by decide +kernel
theorem dX3_link_24 : decode cX3_link 24 = .ok (.getfield 19, 3) := by decide +kernel
theorem dX3_link_27 : decode cX3_link 27 = .ok (.iload_n 3, 1) := by decide +kernel
theorem dX3_link_28 : decode cX3_link 28 = .ok (.iaload, 1) := by decide +kernel
theorem dX3_link_29 : decode cX3_link 29 = .ok (.iastore, 1) := by decide +kernel
theorem dX3_link_30 : decode cX3_link 30 = .ok (.return_, 1) := by decide +kernel
theorem dX3_open_0 : decode cX3_open 0 = .ok (.iconst 0, 1) := by decide +kernel
theorem dX3_open_1 : decode cX3_open 1 = .ok (.istore 4, 2) := by decide +kernel
theorem dX3_open_3 : decode cX3_open 3 = .ok (.aload_n 0, 1) := by decide +kernel
theorem dX3_open_4 : decode cX3_open 4 = .ok (.iload_n 2, 1) := by decide +kernel
theorem dX3_open_5 : decode cX3_open 5 = .ok (.iload_n 3, 1) := by decide +kernel
theorem dX3_open_6 : decode cX3_open 6 = .ok (.invokevirtual 28, 3) := by decide +kernel
theorem dX3_open_9 : decode cX3_open 9 = .ok (.istore 5, 2) := by decide +kernel
theorem dX3_open_11 : decode cX3_open 11 = .ok (.iconst 1, 1) := by decide +kernel
theorem dX3_open_12 : decode cX3_open 12 = .ok (.istore 6, 2) := by decide +kernel
theorem dX3_open_14 : decode cX3_open 14 = .ok (.iload 6, 2) := by decide +kernel
theorem dX3_open_16 : decode cX3_open 16 = .ok (.aload_n 1, 1) := by decide +kernel
theorem dX3_open_17 : decode cX3_open 17 = .ok (.getfield 36, 3) := by decide +kernel
theorem dX3_open_20 : decode cX3_open 20 = .ok (.if_icmp .ge 54, 3) := by decide +kernel
theorem dX3_open_23 : decode cX3_open 23 = .ok (.iconst 1, 1) := by decide +kernel
theorem dX3_open_24 : decode cX3_open 24 = .ok (.istore 7, 2) := by decide +kernel
theorem dX3_open_26 : decode cX3_open 26 = .ok (.iload 7, 2) := by decide +kernel
theorem dX3_open_28 : decode cX3_open 28 = .ok (.aload_n 1, 1) := by decide +kernel
theorem dX3_open_29 : decode cX3_open 29 = .ok (.getfield 36, 3) := by decide +kernel
theorem dX3_open_32 : decode cX3_open 32 = .ok (.if_icmp .ge 36, 3) := by decide +kernel
theorem dX3_open_35 : decode cX3_open 35 = .ok (.aload_n 1, 1) := by decide +kernel
theorem dX3_open_36 : decode cX3_open 36 = .ok (.iload 6, 2) := by decide +kernel
theorem dX3_open_38 : decode cX3_open 38 = .ok (.iload 7, 2) := by decide +kernel
theorem dX3_open_40 : decode cX3_open 40 = .ok (.iload 5, 2) := by decide +kernel
theorem dX3_open_42 : decode cX3_open 42 = .ok (.invokevirtual 32, 3) := by decide +kernel
theorem dX3_open_45 : decode cX3_open 45 = .ok (.ifCond .eq 17, 3) := by decide +kernel
theorem dX3_open_48 : decode cX3_open 48 = .ok (.iload 4, 2) := by decide +kernel
theorem dX3_open_50 : decode cX3_open 50 = .ok (.iconst 1, 1) := by decide +kernel
theorem dX3_open_51 : decode cX3_open 51 = .ok (.iconst 4, 1) := by decide +kernel
theorem dX3_open_52 : decode cX3_open 52 = .ok (.iload 6, 2) := by decide +kernel
theorem dX3_open_54 : decode cX3_open 54 = .ok (.imul, 1) := by decide +kernel
theorem dX3_open_55 : decode cX3_open 55 = .ok (.iload 7, 2) := by decide +kernel
theorem dX3_open_57 : decode cX3_open 57 = .ok (.iadd, 1) := by decide +kernel
theorem dX3_open_58 : decode cX3_open 58 = .ok (.ishl, 1) := by decide +kernel
theorem dX3_open_59 : decode cX3_open 59 = .ok (.ior, 1) := by decide +kernel
theorem dX3_open_60 : decode cX3_open 60 = .ok (.istore 4, 2) := by decide +kernel
theorem dX3_open_62 : decode cX3_open 62 = .ok (.iinc 7 1, 3) := by decide +kernel
theorem dX3_open_65 : decode cX3_open 65 = .ok (.goto (-39), 3) := by decide +kernel
theorem dX3_open_68 : decode cX3_open 68 = .ok (.iinc 6 1, 3) := by decide +kernel
theorem dX3_open_71 : decode cX3_open 71 = .ok (.goto (-57), 3) := by decide +kernel
theorem dX3_open_74 : decode cX3_open 74 = .ok (.iconst 0, 1) := by decide +kernel
theorem dX3_open_75 : decode cX3_open 75 = .ok (.istore 6, 2) := by decide +kernel
theorem dX3_open_77 : decode cX3_open 77 = .ok (.iload 6, 2) := by decide +kernel
theorem dX3_open_79 : decode cX3_open 79 = .ok (.aload_n 0, 1) := by decide +kernel
theorem dX3_open_80 : decode cX3_open 80 = .ok (.getfield 9, 3) := by decide +kernel
theorem dX3_open_83 : decode cX3_open 83 = .ok (.if_icmp .ge 35, 3) := by decide +kernel
theorem dX3_open_86 : decode cX3_open 86 = .ok (.iload 4, 2) := by decide +kernel
theorem dX3_open_88 : decode cX3_open 88 = .ok (.iconst 1, 1) := by decide +kernel
theorem dX3_open_89 : decode cX3_open 89 = .ok (.iconst 4, 1) := by decide +kernel
theorem dX3_open_90 : decode cX3_open 90 = .ok (.aload_n 0, 1) := by decide +kernel
theorem dX3_open_91 : decode cX3_open 91 = .ok (.iload_n 2, 1) := by decide +kernel
theorem dX3_open_92 : decode cX3_open 92 = .ok (.iload 6, 2) := by decide +kernel
theorem dX3_open_94 : decode cX3_open 94 = .ok (.invokevirtual 28, 3) := by decide +kernel
theorem dX3_open_97 : decode cX3_open 97 = .ok (.imul, 1) := by decide +kernel
theorem dX3_open_98 : decode cX3_open 98 = .ok (.aload_n 0, 1) := by decide +kernel
theorem dX3_open_99 : decode cX3_open 99 = .ok (.iload 6, 2) := by decide +kernel
theorem dX3_open_101 : decode cX3_open 101 = .ok (.iload_n 3, 1) := by decide +kernel
theorem dX3_open_102 : decode cX3_open 102 = .ok (.invokevirtual 28, 3) := by decide +kernel
theorem dX3_open_105 : decode cX3_open 105 = .ok (.iadd, 1) := by decide +kernel
theorem dX3_open_106 : decode cX3_open 106 = .ok (.ishl, 1) := by decide +kernel
theorem dX3_open_107 : decode cX3_open 107 = .ok (.iconst (-1), 1) := by decide +kernel
theorem dX3_open_108 : decode cX3_open 108 = .ok (.ixor, 1) := by decide +kernel
theorem dX3_open_109 : decode cX3_open 109 = .ok (.iand, 1) := by decide +kernel
theorem dX3_open_110 : decode cX3_open 110 = .ok (.istore 4, 2) := by decide +kernel
theorem dX3_open_112 : decode cX3_open 112 = .ok (.iinc 6 1, 3) := by decide +kernel
theorem dX3_open_115 : decode cX3_open 115 = .ok (.goto (-38), 3) := by decide +kernel
theorem dX3_open_118 : decode cX3_open 118 = .ok (.iload 4, 2) := by decide +kernel
theorem dX3_open_120 : decode cX3_open 120 = .ok (.ireturn, 1) := by decide +kernel
theorem dX3_placeOf_0 : decode cX3_placeOf 0 = .ok (.iconst 0, 1) := by decide +kernel
theorem dX3_placeOf_1 : decode cX3_placeOf 1 = .ok (.istore_n 2, 1) := by decide +kernel
theorem dX3_placeOf_2 : decode cX3_placeOf 2 = .ok (.iconst 0, 1) := by decide +kernel
theorem dX3_placeOf_3 : decode cX3_placeOf 3 = .ok (.istore_n 3, 1) := by decide +kernel
theorem dX3_placeOf_4 : decode cX3_placeOf 4 = .ok (.iload_n 3, 1) := by decide +kernel
theorem dX3_placeOf_5 : decode cX3_placeOf 5 = .ok (.bipush 16, 2) := by decide +kernel
theorem dX3_placeOf_7 : decode cX3_placeOf 7 = .ok (.if_icmp .ge 28, 3) := by decide +kernel
theorem dX3_placeOf_10 : decode cX3_placeOf 10 = .ok (.iload_n 0, 1) := by decide +kernel
theorem dX3_placeOf_11 : decode cX3_placeOf 11 = .ok (.iload_n 3, 1) := by decide +kernel
theorem dX3_placeOf_12 : decode cX3_placeOf 12 = .ok (.ishr, 1) := by decide +kernel
theorem dX3_placeOf_13 : decode cX3_placeOf 13 = .ok (.iconst 1, 1) := by decide +kernel
theorem dX3_placeOf_14 : decode cX3_placeOf 14 = .ok (.iand, 1) := by decide +kernel
theorem dX3_placeOf_15 : decode cX3_placeOf 15 = .ok (.iconst 1, 1) := by decide +kernel
theorem dX3_placeOf_16 : decode cX3_placeOf 16 = .ok (.if_icmp .ne 13, 3) := by decide +kernel
theorem dX3_placeOf_19 : decode cX3_placeOf 19 = .ok (.iload_n 2, 1) := by decide +kernel
theorem dX3_placeOf_20 : decode cX3_placeOf 20 = .ok (.iload_n 1, 1) := by decide +kernel
theorem dX3_placeOf_21 : decode cX3_placeOf 21 = .ok (.if_icmp .ne 5, 3) := by decide +kernel
theorem dX3_placeOf_24 : decode cX3_placeOf 24 = .ok (.iload_n 3, 1) := by decide +kernel
theorem dX3_placeOf_25 : decode cX3_placeOf 25 = .ok (.ireturn, 1) := by decide +kernel
theorem dX3_placeOf_26 : decode cX3_placeOf 26 = .ok (.iinc 2 1, 3) := by decide +kernel
theorem dX3_placeOf_29 : decode cX3_placeOf 29 = .ok (.iinc 3 1, 3) := by decide +kernel
theorem dX3_placeOf_32 : decode cX3_placeOf 32 = .ok (.goto (-28), 3) := by decide +kernel
theorem dX3_placeOf_35 : decode cX3_placeOf 35 = .ok (.iconst 0, 1) := by decide +kernel
theorem dX3_placeOf_36 : decode cX3_placeOf 36 = .ok (.ireturn, 1) := by decide +kernel
theorem dX3_unsound_0 : decode cX3_unsound 0 = .ok (.iconst 0, 1) := by decide +kernel
theorem dX3_unsound_1 : decode cX3_unsound 1 = .ok (.istore_n 2, 1) := by decide +kernel
theorem dX3_unsound_2 : decode cX3_unsound 2 = .ok (.iload_n 2, 1) := by decide +kernel
theorem dX3_unsound_3 : decode cX3_unsound 3 = .ok (.aload_n 0, 1) := by decide +kernel
theorem dX3_unsound_4 : decode cX3_unsound 4 = .ok (.getfield 9, 3) := by decide +kernel
theorem dX3_unsound_7 : decode cX3_unsound 7 = .ok (.if_icmp .ge 87, 3) := by decide +kernel
theorem dX3_unsound_10 : decode cX3_unsound 10 = .ok (.iload_n 2, 1) := by decide +kernel
theorem dX3_unsound_11 : decode cX3_unsound 11 = .ok (.iconst 1, 1) := by decide +kernel
theorem dX3_unsound_12 : decode cX3_unsound 12 = .ok (.iadd, 1) := by decide +kernel
theorem dX3_unsound_13 : decode cX3_unsound 13 = .ok (.istore_n 3, 1) := by decide +kernel
theorem dX3_unsound_14 : decode cX3_unsound 14 = .ok (.iload_n 3, 1) := by decide +kernel
theorem dX3_unsound_15 : decode cX3_unsound 15 = .ok (.aload_n 0, 1) := by decide +kernel
theorem dX3_unsound_16 : decode cX3_unsound 16 = .ok (.getfield 9, 3) := by decide +kernel
theorem dX3_unsound_19 : decode cX3_unsound 19 = .ok (.if_icmp .ge 69, 3) := by decide +kernel
theorem dX3_unsound_22 : decode cX3_unsound 22 = .ok (.iload_n 3, 1) := by decide +kernel
theorem dX3_unsound_23 : decode cX3_unsound 23 = .ok (.iconst 1, 1) := by decide +kernel
theorem dX3_unsound_24 : decode cX3_unsound 24 = .ok (.iadd, 1) := by decide +kernel
theorem dX3_unsound_25 : decode cX3_unsound 25 = .ok (.istore 4, 2) := by decide +kernel
theorem dX3_unsound_27 : decode cX3_unsound 27 = .ok (.iload 4, 2) := by decide +kernel
theorem dX3_unsound_29 : decode cX3_unsound 29 = .ok (.aload_n 0, 1) := by decide +kernel
theorem dX3_unsound_30 : decode cX3_unsound 30 = .ok (.getfield 9, 3) := by decide +kernel
theorem dX3_unsound_33 : decode cX3_unsound 33 = .ok (.if_icmp .ge 49, 3) := by decide +kernel
theorem dX3_unsound_36 : decode cX3_unsound 36 = .ok (.aload_n 1, 1) := by decide +kernel
theorem dX3_unsound_37 : decode cX3_unsound 37 = .ok (.aload_n 0, 1) := by decide +kernel
theorem dX3_unsound_38 : decode cX3_unsound 38 = .ok (.iload_n 2, 1) := by decide +kernel
theorem dX3_unsound_39 : decode cX3_unsound 39 = .ok (.iload_n 3, 1) := by decide +kernel
theorem dX3_unsound_40 : decode cX3_unsound 40 = .ok (.invokevirtual 28, 3) := by decide +kernel
theorem dX3_unsound_43 : decode cX3_unsound 43 = .ok (.aload_n 0, 1) := by decide +kernel
theorem dX3_unsound_44 : decode cX3_unsound 44 = .ok (.iload_n 3, 1) := by decide +kernel
theorem dX3_unsound_45 : decode cX3_unsound 45 = .ok (.iload 4, 2) := by decide +kernel
theorem dX3_unsound_47 : decode cX3_unsound 47 = .ok (.invokevirtual 28, 3) := by decide +kernel
theorem dX3_unsound_50 : decode cX3_unsound 50 = .ok (.aload_n 0, 1) := by decide +kernel
theorem dX3_unsound_51 : decode cX3_unsound 51 = .ok (.iload_n 2, 1) := by decide +kernel
theorem dX3_unsound_52 : decode cX3_unsound 52 = .ok (.iload 4, 2) := by decide +kernel
theorem dX3_unsound_54 : decode cX3_unsound 54 = .ok (.invokevirtual 28, 3) := by decide +kernel
theorem dX3_unsound_57 : decode cX3_unsound 57 = .ok (.invokevirtual 32, 3) := by decide +kernel
theorem dX3_unsound_60 : decode cX3_unsound 60 = .ok (.ifCond .ne 16, 3) := by decide +kernel
theorem dX3_unsound_63 : decode cX3_unsound 63 = .ok (.bipush 100, 2) := by decide +kernel
theorem dX3_unsound_65 : decode cX3_unsound 65 = .ok (.iload_n 2, 1) := by decide +kernel
theorem dX3_unsound_66 : decode cX3_unsound 66 = .ok (.imul, 1) := by decide +kernel
theorem dX3_unsound_67 : decode cX3_unsound 67 = .ok (.bipush 10, 2) := by decide +kernel
theorem dX3_unsound_69 : decode cX3_unsound 69 = .ok (.iload_n 3, 1) := by decide +kernel
theorem dX3_unsound_70 : decode cX3_unsound 70 = .ok (.imul, 1) := by decide +kernel
theorem dX3_unsound_71 : decode cX3_unsound 71 = .ok (.iadd, 1) := by decide +kernel
theorem dX3_unsound_72 : decode cX3_unsound 72 = .ok (.iload 4, 2) := by decide +kernel
theorem dX3_unsound_74 : decode cX3_unsound 74 = .ok (.iadd, 1) := by decide +kernel
theorem dX3_unsound_75 : decode cX3_unsound 75 = .ok (.ireturn, 1) := by decide +kernel
theorem dX3_unsound_76 : decode cX3_unsound 76 = .ok (.iinc 4 1, 3) := by decide +kernel
theorem dX3_unsound_79 : decode cX3_unsound 79 = .ok (.goto (-52), 3) := by decide +kernel
theorem dX3_unsound_82 : decode cX3_unsound 82 = .ok (.iinc 3 1, 3) := by decide +kernel
theorem dX3_unsound_85 : decode cX3_unsound 85 = .ok (.goto (-71), 3) := by decide +kernel
theorem dX3_unsound_88 : decode cX3_unsound 88 = .ok (.iinc 2 1, 3) := by decide +kernel
theorem dX3_unsound_91 : decode cX3_unsound 91 = .ok (.goto (-89), 3) := by decide +kernel
theorem dX3_unsound_94 : decode cX3_unsound 94 = .ok (.bipush (-5), 2) := by decide +kernel
theorem dX3_unsound_96 : decode cX3_unsound 96 = .ok (.ireturn, 1) := by decide +kernel
theorem dX4_clash_0 : decode cX4_clash 0 = .ok (.iload_n 1, 1) := by decide +kernel
theorem dX4_clash_1 : decode cX4_clash 1 = .ok (.istore_n 2, 1) := by decide +kernel
theorem dX4_clash_2 : decode cX4_clash 2 = .ok (.iload_n 2, 1) := by decide +kernel
theorem dX4_clash_3 : decode cX4_clash 3 = .ok (.ifCond .lt 89, 3) := by decide +kernel
theorem dX4_clash_6 : decode cX4_clash 6 = .ok (.iload_n 2, 1) := by decide +kernel
theorem dX4_clash_7 : decode cX4_clash 7 = .ok (.iconst 1, 1) := by decide +kernel
theorem dX4_clash_8 : decode cX4_clash 8 = .ok (.iadd, 1) := by decide +kernel
theorem dX4_clash_9 : decode cX4_clash 9 = .ok (.istore_n 3, 1) := by decide +kernel
theorem dX4_clash_10 : decode cX4_clash 10 = .ok (.iload_n 3, 1) := by decide +kernel
theorem dX4_clash_11 : decode cX4_clash 11 = .ok (.aload_n 0, 1) := by decide +kernel
theorem dX4_clash_12 : decode cX4_clash 12 = .ok (.getfield 57, 3) := by decide +kernel
theorem dX4_clash_15 : decode cX4_clash 15 = .ok (.if_icmp .ge 71, 3) := by decide +kernel
theorem dX4_clash_18 : decode cX4_clash 18 = .ok (.aload_n 0, 1) := by decide +kernel
theorem dX4_clash_19 : decode cX4_clash 19 = .ok (.getfield 24, 3) := by decide +kernel
theorem dX4_clash_22 : decode cX4_clash 22 = .ok (.getfield 58, 3) := by decide +kernel
theorem dX4_clash_25 : decode cX4_clash 25 = .ok (.bipush 6, 2) := by decide +kernel
theorem dX4_clash_27 : decode cX4_clash 27 = .ok (.aload_n 0, 1) := by decide +kernel
theorem dX4_clash_28 : decode cX4_clash 28 = .ok (.getfield 62, 3) := by decide +kernel
theorem dX4_clash_31 : decode cX4_clash 31 = .ok (.iload_n 2, 1) := by decide +kernel
theorem dX4_clash_32 : decode cX4_clash 32 = .ok (.iaload, 1) := by decide +kernel
theorem dX4_clash_33 : decode cX4_clash 33 = .ok (.imul, 1) := by decide +kernel
theorem dX4_clash_34 : decode cX4_clash 34 = .ok (.aload_n 0, 1) := by decide +kernel
theorem dX4_clash_35 : decode cX4_clash 35 = .ok (.getfield 62, 3) := by decide +kernel
theorem dX4_clash_38 : decode cX4_clash 38 = .ok (.iload_n 3, 1) := by decide +kernel
theorem dX4_clash_39 : decode cX4_clash 39 = .ok (.iaload, 1) := by decide +kernel
theorem dX4_clash_40 : decode cX4_clash 40 = .ok (.iadd, 1) := by decide +kernel
theorem dX4_clash_41 : decode cX4_clash 41 = .ok (.iaload, 1) := by decide +kernel
theorem dX4_clash_42 : decode cX4_clash 42 = .ok (.istore 4, 2) := by decide +kernel
theorem dX4_clash_44 : decode cX4_clash 44 = .ok (.aload_n 0, 1) := by decide +kernel
theorem dX4_clash_45 : decode cX4_clash 45 = .ok (.getfield 62, 3) := by decide +kernel
theorem dX4_clash_48 : decode cX4_clash 48 = .ok (.iload_n 2, 1) := by decide +kernel
theorem dX4_clash_49 : decode cX4_clash 49 = .ok (.iaload, 1) := by decide +kernel
theorem dX4_clash_50 : decode cX4_clash 50 = .ok (.aload_n 0, 1) := by decide +kernel
theorem dX4_clash_51 : decode cX4_clash 51 = .ok (.getfield 62, 3) := by decide +kernel
theorem dX4_clash_54 : decode cX4_clash 54 = .ok (.iload_n 3, 1) := by decide +kernel
theorem dX4_clash_55 : decode cX4_clash 55 = .ok (.iaload, 1) := by decide +kernel
theorem dX4_clash_56 : decode cX4_clash 56 = .ok (.if_icmp .eq 22, 3) := by decide +kernel
theorem dX4_clash_59 : decode cX4_clash 59 = .ok (.aload_n 0, 1) := by decide +kernel
theorem dX4_clash_60 : decode cX4_clash 60 = .ok (.getfield 21, 3) := by decide +kernel
theorem dX4_clash_63 : decode cX4_clash 63 = .ok (.getfield 58, 3) := by decide +kernel
theorem dX4_clash_66 : decode cX4_clash 66 = .ok (.bipush 6, 2) := by decide +kernel
theorem dX4_clash_68 : decode cX4_clash 68 = .ok (.iload_n 2, 1) := by decide +kernel
theorem dX4_clash_69 : decode cX4_clash 69 = .ok (.imul, 1) := by decide +kernel
theorem dX4_clash_70 : decode cX4_clash 70 = .ok (.iload_n 3, 1) := by decide +kernel
theorem dX4_clash_71 : decode cX4_clash 71 = .ok (.iadd, 1) := by decide +kernel
theorem dX4_clash_72 : decode cX4_clash 72 = .ok (.iaload, 1) := by decide +kernel
theorem dX4_clash_73 : decode cX4_clash 73 = .ok (.iload 4, 2) := by decide +kernel
theorem dX4_clash_75 : decode cX4_clash 75 = .ok (.if_icmp .eq 5, 3) := by decide +kernel
theorem dX4_clash_78 : decode cX4_clash 78 = .ok (.iload_n 2, 1) := by decide +kernel
theorem dX4_clash_79 : decode cX4_clash 79 = .ok (.ireturn, 1) := by decide +kernel
theorem dX4_clash_80 : decode cX4_clash 80 = .ok (.iinc 3 1, 3) := by decide +kernel
theorem dX4_clash_83 : decode cX4_clash 83 = .ok (.goto (-73), 3) := by decide +kernel
theorem dX4_clash_86 : decode cX4_clash 86 = .ok (.iinc 2 (-1), 3) := by decide +kernel
theorem dX4_clash_89 : decode cX4_clash 89 = .ok (.goto (-87), 3) := by decide +kernel
theorem dX4_clash_92 : decode cX4_clash 92 = .ok (.iconst (-1), 1) := by decide +kernel
theorem dX4_clash_93 : decode cX4_clash 93 = .ok (.ireturn, 1) := by decide +kernel
theorem dX4_init_0 : decode cX4_init 0 = .ok (.aload_n 0, 1) := by decide +kernel
theorem dX4_init_1 : decode cX4_init 1 = .ok (.invokespecial 3, 3) := by decide +kernel
theorem dX4_init_4 : decode cX4_init 4 = .ok (.aload_n 0, 1) := by decide +kernel
theorem dX4_init_5 : decode cX4_init 5 = .ok (.aload_n 1, 1) := by decide +kernel
theorem dX4_init_6 : decode cX4_init 6 = .ok (.putfield 9, 3) := by decide +kernel
theorem dX4_init_9 : decode cX4_init 9 = .ok (.aload_n 0, 1) := by decide +kernel
theorem dX4_init_10 : decode cX4_init 10 = .ok (.aload_n 1, 1) := by decide +kernel
theorem dX4_init_11 : decode cX4_init 11 = .ok (.getfield 15, 3) := by decide +kernel
theorem dX4_init_14 : decode cX4_init 14 = .ok (.putfield 21, 3) := by decide +kernel
theorem dX4_init_17 : decode cX4_init 17 = .ok (.aload_n 0, 1) := by decide +kernel
theorem dX4_init_18 : decode cX4_init 18 = .ok (.aload_n 1, 1) := by decide +kernel
theorem dX4_init_19 : decode cX4_init 19 = .ok (.getfield 15, 3) := by decide +kernel
theorem dX4_init_22 : decode cX4_init 22 = .ok (.putfield 24, 3) := by decide +kernel
theorem dX4_init_25 : decode cX4_init 25 = .ok (.return_, 1) := by decide +kernel
theorem dX4_isBarred_0 : decode cX4_isBarred 0 = .ok (.aload_n 0, 1) := by decide +kernel
theorem dX4_isBarred_1 : decode cX4_isBarred 1 = .ok (.getfield 9, 3) := by decide +kernel
theorem dX4_isBarred_4 : decode cX4_isBarred 4 = .ok (.getfield 43, 3) := by decide +kernel
theorem dX4_isBarred_7 : decode cX4_isBarred 7 = .ok (.ifCond .eq 16, 3) := by decide +kernel
theorem dX4_isBarred_10 : decode cX4_isBarred 10 = .ok (.aload_n 0, 1) := by decide +kernel
theorem dX4_isBarred_11 : decode cX4_isBarred 11 = .ok (.getfield 9, 3) := by decide +kernel
theorem dX4_isBarred_14 : decode cX4_isBarred 14 = .ok (.getfield 15, 3) := by decide +kernel
theorem dX4_isBarred_17 : decode cX4_isBarred 17 = .ok (.getfield 47, 3) := by decide +kernel
theorem dX4_isBarred_20 : decode cX4_isBarred 20 = .ok (.goto 4, 3) := by decide +kernel
theorem dX4_isBarred_23 : decode cX4_isBarred 23 = .ok (.iconst 0, 1) := by decide +kernel
theorem dX4_isBarred_24 : decode cX4_isBarred 24 = .ok (.istore_n 2, 1) := by decide +kernel
theorem dX4_isBarred_25 : decode cX4_isBarred 25 = .ok (.iload_n 2, 1) := by decide +kernel
theorem dX4_isBarred_26 : decode cX4_isBarred 26 = .ok (.ifCond .eq 11, 3) := by decide +kernel
theorem dX4_isBarred_29 : decode cX4_isBarred 29 = .ok (.iload_n 2, 1) := by decide +kernel
theorem dX4_isBarred_30 : decode cX4_isBarred 30 = .ok (.aload_n 1, 1) := by decide +kernel
theorem dX4_isBarred_31 : decode cX4_isBarred 31 = .ok (.getfield 47, 3) := by decide +kernel
theorem dX4_isBarred_34 : decode cX4_isBarred 34 = .ok (.if_icmp .le 5, 3) := by decide +kernel
theorem dX4_isBarred_37 : decode cX4_isBarred 37 = .ok (.iconst 0, 1) := by decide +kernel
theorem dX4_isBarred_38 : decode cX4_isBarred 38 = .ok (.ireturn, 1) := by decide +kernel
theorem dX4_isBarred_39 : decode cX4_isBarred 39 = .ok (.aload_n 0, 1) := by decide +kernel
theorem dX4_isBarred_40 : decode cX4_isBarred 40 = .ok (.aload_n 0, 1) := by decide +kernel
theorem dX4_isBarred_41 : decode cX4_isBarred 41 = .ok (.getfield 9, 3) := by decide +kernel
theorem dX4_isBarred_44 : decode cX4_isBarred 44 = .ok (.getfield 15, 3) := by decide +kernel
theorem dX4_isBarred_47 : decode cX4_isBarred 47 = .ok (.aload_n 1, 1) := by decide +kernel
theorem dX4_isBarred_48 : decode cX4_isBarred 48 = .ok (.invokevirtual 27, 3) := by decide +kernel
theorem dX4_isBarred_51 : decode cX4_isBarred 51 = .ok (.aload_n 0, 1) := by decide +kernel
theorem dX4_isBarred_52 : decode cX4_isBarred 52 = .ok (.invokevirtual 31, 3) := by decide +kernel
theorem dX4_isBarred_55 : decode cX4_isBarred 55 = .ok (.ireturn, 1) := by decide +kernel
theorem dX4_look_0 : decode cX4_look 0 = .ok (.aload_n 0, 1) := by decide +kernel
theorem dX4_look_1 : decode cX4_look 1 = .ok (.aload_n 1, 1) := by decide +kernel
theorem dX4_look_2 : decode cX4_look 2 = .ok (.putfield 21, 3) := by decide +kernel
theorem dX4_look_5 : decode cX4_look 5 = .ok (.aload_n 0, 1) := by decide +kernel
theorem dX4_look_6 : decode cX4_look 6 = .ok (.aload_n 2, 1) := by decide +kernel
theorem dX4_look_7 : decode cX4_look 7 = .ok (.putfield 24, 3) := by decide +kernel
theorem dX4_look_10 : decode cX4_look 10 = .ok (.aload_n 0, 1) := by decide +kernel
theorem dX4_look_11 : decode cX4_look 11 = .ok (.aload_n 0, 1) := by decide +kernel
theorem dX4_look_12 : decode cX4_look 12 = .ok (.getfield 21, 3) := by decide +kernel
theorem dX4_look_15 : decode cX4_look 15 = .ok (.getfield 47, 3) := by decide +kernel
theorem dX4_look_18 : decode cX4_look 18 = .ok (.iconst 0, 1) := by decide +kernel
theorem dX4_look_19 : decode cX4_look 19 = .ok (.aload_n 0, 1) := by decide +kernel
theorem dX4_look_20 : decode cX4_look 20 = .ok (.getfield 24, 3) := by decide +kernel
theorem dX4_look_23 : decode cX4_look 23 = .ok (.getfield 47, 3) := by decide +kernel
theorem dX4_look_26 : decode cX4_look 26 = .ok (.iconst 1, 1) := by decide +kernel
theorem dX4_look_27 : decode cX4_look 27 = .ok (.isub, 1) := by decide +kernel
theorem dX4_look_28 : decode cX4_look 28 = .ok (.invokevirtual 53, 3) := by decide +kernel
theorem dX4_look_31 : decode cX4_look 31 = .ok (.return_, 1) := by decide +kernel
theorem dX4_way_0 : decode cX4_way 0 = .ok (.aload_n 0, 1) := by decide +kernel
theorem dX4_way_1 : decode cX4_way 1 = .ok (.aload_n 1, 1) := by decide +kernel
theorem dX4_way_2 : decode cX4_way 2 = .ok (.aload_n 2, 1) := by decide +kernel
theorem dX4_way_3 : decode cX4_way 3 = .ok (.invokevirtual 27, 3) := by decide +kernel
theorem dX4_way_6 : decode cX4_way 6 = .ok (.iconst 0, 1) := by decide +kernel
theorem dX4_way_7 : decode cX4_way 7 = .ok (.istore 4, 2) := by decide +kernel
theorem dX4_way_9 : decode cX4_way 9 = .ok (.aload_n 0, 1) := by decide +kernel
theorem dX4_way_10 : decode cX4_way 10 = .ok (.invokevirtual 31, 3) := by decide +kernel
theorem dX4_way_13 : decode cX4_way 13 = .ok (.istore 5, 2) := by decide +kernel
theorem dX4_way_15 : decode cX4_way 15 = .ok (.iconst 0, 1) := by decide +kernel
theorem dX4_way_16 : decode cX4_way 16 = .ok (.istore 6, 2) := by decide +kernel
theorem dX4_way_18 : decode cX4_way 18 = .ok (.iload 6, 2) := by decide +kernel
theorem dX4_way_20 : decode cX4_way 20 = .ok (.ldc 35, 2) := by decide +kernel
theorem dX4_way_22 : decode cX4_way 22 = .ok (.if_icmp .ge 35, 3) := by decide +kernel
theorem dX4_way_25 : decode cX4_way 25 = .ok (.iload 5, 2) := by decide +kernel
theorem dX4_way_27 : decode cX4_way 27 = .ok (.ifCond .eq 30, 3) := by decide +kernel
theorem dX4_way_30 : decode cX4_way 30 = .ok (.iload 4, 2) := by decide +kernel
theorem dX4_way_32 : decode cX4_way 32 = .ok (.iload_n 3, 1) := by decide +kernel
theorem dX4_way_33 : decode cX4_way 33 = .ok (.if_icmp .ne 9, 3) := by decide +kernel
theorem dX4_way_36 : decode cX4_way 36 = .ok (.aload_n 0, 1) := by decide +kernel
theorem dX4_way_37 : decode cX4_way 37 = .ok (.iconst 1, 1) := by decide +kernel
theorem dX4_way_38 : decode cX4_way 38 = .ok (.invokevirtual 36, 3) := by decide +kernel
theorem dX4_way_41 : decode cX4_way 41 = .ok (.ireturn, 1) := by decide +kernel
theorem dX4_way_42 : decode cX4_way 42 = .ok (.iinc 4 1, 3) := by decide +kernel
theorem dX4_way_45 : decode cX4_way 45 = .ok (.aload_n 0, 1) := by decide +kernel
theorem dX4_way_46 : decode cX4_way 46 = .ok (.invokevirtual 40, 3) := by decide +kernel
theorem dX4_way_49 : decode cX4_way 49 = .ok (.istore 5, 2) := by decide +kernel
theorem dX4_way_51 : decode cX4_way 51 = .ok (.iinc 6 1, 3) := by decide +kernel
theorem dX4_way_54 : decode cX4_way 54 = .ok (.goto (-36), 3) := by decide +kernel
theorem dX4_way_57 : decode cX4_way 57 = .ok (.iload_n 3, 1) := by decide +kernel
theorem dX4_way_58 : decode cX4_way 58 = .ok (.iconst (-1), 1) := by decide +kernel
theorem dX4_way_59 : decode cX4_way 59 = .ok (.if_icmp .ne 8, 3) := by decide +kernel
theorem dX4_way_62 : decode cX4_way 62 = .ok (.iload 4, 2) := by decide +kernel
theorem dX4_way_64 : decode cX4_way 64 = .ok (.goto 4, 3) := by decide +kernel
theorem dX4_way_67 : decode cX4_way 67 = .ok (.iconst (-1), 1) := by decide +kernel
theorem dX4_way_68 : decode cX4_way 68 = .ok (.ireturn, 1) := by decide +kernel
theorem dX5_clash_0 : decode cX5_clash 0 = .ok (.iload_n 1, 1) := by decide +kernel
theorem dX5_clash_1 : decode cX5_clash 1 = .ok (.istore_n 2, 1) := by decide +kernel
theorem dX5_clash_2 : decode cX5_clash 2 = .ok (.iload_n 2, 1) := by decide +kernel
theorem dX5_clash_3 : decode cX5_clash 3 = .ok (.ifCond .lt 90, 3) := by decide +kernel
theorem dX5_clash_6 : decode cX5_clash 6 = .ok (.aload_n 0, 1) := by decide +kernel
theorem dX5_clash_7 : decode cX5_clash 7 = .ok (.getfield 67, 3) := by decide +kernel
theorem dX5_clash_10 : decode cX5_clash 10 = .ok (.iload_n 2, 1) := by decide +kernel
theorem dX5_clash_11 : decode cX5_clash 11 = .ok (.isub, 1) := by decide +kernel
theorem dX5_clash_12 : decode cX5_clash 12 = .ok (.istore_n 3, 1) := by decide +kernel
theorem dX5_clash_13 : decode cX5_clash 13 = .ok (.aload_n 0, 1) := by decide +kernel
theorem dX5_clash_14 : decode cX5_clash 14 = .ok (.getfield 68, 3) := by decide +kernel
theorem dX5_clash_17 : decode cX5_clash 17 = .ok (.iload_n 2, 1) := by decide +kernel
theorem dX5_clash_18 : decode cX5_clash 18 = .ok (.iaload, 1) := by decide +kernel
theorem dX5_clash_19 : decode cX5_clash 19 = .ok (.istore 4, 2) := by decide +kernel
theorem dX5_clash_21 : decode cX5_clash 21 = .ok (.iconst 2, 1) := by decide +kernel
theorem dX5_clash_22 : decode cX5_clash 22 = .ok (.iload_n 3, 1) := by decide +kernel
theorem dX5_clash_23 : decode cX5_clash 23 = .ok (.imul, 1) := by decide +kernel
theorem dX5_clash_24 : decode cX5_clash 24 = .ok (.aload_n 0, 1) := by decide +kernel
theorem dX5_clash_25 : decode cX5_clash 25 = .ok (.getfield 9, 3) := by decide +kernel
theorem dX5_clash_28 : decode cX5_clash 28 = .ok (.if_icmp .ne 20, 3) := by decide +kernel
theorem dX5_clash_31 : decode cX5_clash 31 = .ok (.aload_n 0, 1) := by decide +kernel
theorem dX5_clash_32 : decode cX5_clash 32 = .ok (.getfield 22, 3) := by decide +kernel
theorem dX5_clash_35 : decode cX5_clash 35 = .ok (.getfield 31, 3) := by decide +kernel
theorem dX5_clash_38 : decode cX5_clash 38 = .ok (.iload 4, 2) := by decide +kernel
theorem dX5_clash_40 : decode cX5_clash 40 = .ok (.iaload, 1) := by decide +kernel
theorem dX5_clash_41 : decode cX5_clash 41 = .ok (.iload 4, 2) := by decide +kernel
theorem dX5_clash_43 : decode cX5_clash 43 = .ok (.if_icmp .eq 5, 3) := by decide +kernel
theorem dX5_clash_46 : decode cX5_clash 46 = .ok (.iload_n 2, 1) := by decide +kernel
theorem dX5_clash_47 : decode cX5_clash 47 = .ok (.ireturn, 1) := by decide +kernel
theorem dX5_clash_48 : decode cX5_clash 48 = .ok (.aload_n 0, 1) := by decide +kernel
theorem dX5_clash_49 : decode cX5_clash 49 = .ok (.getfield 15, 3) := by decide +kernel
theorem dX5_clash_52 : decode cX5_clash 52 = .ok (.iload_n 3, 1) := by decide +kernel
theorem dX5_clash_53 : decode cX5_clash 53 = .ok (.iload 4, 2) := by decide +kernel
theorem dX5_clash_55 : decode cX5_clash 55 = .ok (.iastore, 1) := by decide +kernel
theorem dX5_clash_56 : decode cX5_clash 56 = .ok (.aload_n 0, 1) := by decide +kernel
theorem dX5_clash_57 : decode cX5_clash 57 = .ok (.getfield 15, 3) := by decide +kernel
theorem dX5_clash_60 : decode cX5_clash 60 = .ok (.aload_n 0, 1) := by decide +kernel
theorem dX5_clash_61 : decode cX5_clash 61 = .ok (.getfield 9, 3) := by decide +kernel
theorem dX5_clash_64 : decode cX5_clash 64 = .ok (.iload_n 3, 1) := by decide +kernel
theorem dX5_clash_65 : decode cX5_clash 65 = .ok (.isub, 1) := by decide +kernel
theorem dX5_clash_66 : decode cX5_clash 66 = .ok (.aload_n 0, 1) := by decide +kernel
theorem dX5_clash_67 : decode cX5_clash 67 = .ok (.getfield 22, 3) := by decide +kernel
theorem dX5_clash_70 : decode cX5_clash 70 = .ok (.getfield 31, 3) := by decide +kernel
theorem dX5_clash_73 : decode cX5_clash 73 = .ok (.iload 4, 2) := by decide +kernel
theorem dX5_clash_75 : decode cX5_clash 75 = .ok (.iaload, 1) := by decide +kernel
theorem dX5_clash_76 : decode cX5_clash 76 = .ok (.iastore, 1) := by decide +kernel
theorem dX5_clash_77 : decode cX5_clash 77 = .ok (.aload_n 0, 1) := by decide +kernel
theorem dX5_clash_78 : decode cX5_clash 78 = .ok (.iload_n 3, 1) := by decide +kernel
theorem dX5_clash_79 : decode cX5_clash 79 = .ok (.invokevirtual 71, 3) := by decide +kernel
theorem dX5_clash_82 : decode cX5_clash 82 = .ok (.ifCond .ne 5, 3) := by decide +kernel
theorem dX5_clash_85 : decode cX5_clash 85 = .ok (.iload_n 2, 1) := by decide +kernel
theorem dX5_clash_86 : decode cX5_clash 86 = .ok (.ireturn, 1) := by decide +kernel
theorem dX5_clash_87 : decode cX5_clash 87 = .ok (.iinc 2 (-1), 3) := by decide +kernel
theorem dX5_clash_90 : decode cX5_clash 90 = .ok (.goto (-88), 3) := by decide +kernel
theorem dX5_clash_93 : decode cX5_clash 93 = .ok (.iconst (-1), 1) := by decide +kernel
theorem dX5_clash_94 : decode cX5_clash 94 = .ok (.ireturn, 1) := by decide +kernel
theorem dX5_goes_0 : decode cX5_goes 0 = .ok (.iconst 1, 1) := by decide +kernel
theorem dX5_goes_1 : decode cX5_goes 1 = .ok (.istore_n 2, 1) := by decide +kernel
theorem dX5_goes_2 : decode cX5_goes 2 = .ok (.iload_n 2, 1) := by decide +kernel
theorem dX5_goes_3 : decode cX5_goes 3 = .ok (.aload_n 0, 1) := by decide +kernel
theorem dX5_goes_4 : decode cX5_goes 4 = .ok (.getfield 9, 3) := by decide +kernel
theorem dX5_goes_7 : decode cX5_goes 7 = .ok (.if_icmp .ge 101, 3) := by decide +kernel
theorem dX5_goes_10 : decode cX5_goes 10 = .ok (.iload_n 2, 1) := by decide +kernel
theorem dX5_goes_11 : decode cX5_goes 11 = .ok (.iload_n 1, 1) := by decide +kernel
theorem dX5_goes_12 : decode cX5_goes 12 = .ok (.if_icmp .gt 9, 3) := by decide +kernel
theorem dX5_goes_15 : decode cX5_goes 15 = .ok (.iload_n 1, 1) := by decide +kernel
theorem dX5_goes_16 : decode cX5_goes 16 = .ok (.iload_n 2, 1) := by decide +kernel
theorem dX5_goes_17 : decode cX5_goes 17 = .ok (.isub, 1) := by decide +kernel
theorem dX5_goes_18 : decode cX5_goes 18 = .ok (.goto 11, 3) := by decide +kernel
theorem dX5_goes_21 : decode cX5_goes 21 = .ok (.iload_n 1, 1) := by decide +kernel
theorem dX5_goes_22 : decode cX5_goes 22 = .ok (.iload_n 2, 1) := by decide +kernel
theorem dX5_goes_23 : decode cX5_goes 23 = .ok (.isub, 1) := by decide +kernel
theorem dX5_goes_24 : decode cX5_goes 24 = .ok (.aload_n 0, 1) := by decide +kernel
theorem dX5_goes_25 : decode cX5_goes 25 = .ok (.getfield 9, 3) := by decide +kernel
theorem dX5_goes_28 : decode cX5_goes 28 = .ok (.iadd, 1) := by decide +kernel
theorem dX5_goes_29 : decode cX5_goes 29 = .ok (.istore_n 3, 1) := by decide +kernel
theorem dX5_goes_30 : decode cX5_goes 30 = .ok (.iload_n 2, 1) := by decide +kernel
theorem dX5_goes_31 : decode cX5_goes 31 = .ok (.iload_n 1, 1) := by decide +kernel
theorem dX5_goes_32 : decode cX5_goes 32 = .ok (.if_icmp .le 13, 3) := by decide +kernel
theorem dX5_goes_35 : decode cX5_goes 35 = .ok (.iload_n 2, 1) := by decide +kernel
theorem dX5_goes_36 : decode cX5_goes 36 = .ok (.aload_n 0, 1) := by decide +kernel
theorem dX5_goes_37 : decode cX5_goes 37 = .ok (.getfield 9, 3) := by decide +kernel
theorem dX5_goes_40 : decode cX5_goes 40 = .ok (.iload_n 1, 1) := by decide +kernel
theorem dX5_goes_41 : decode cX5_goes 41 = .ok (.isub, 1) := by decide +kernel
theorem dX5_goes_42 : decode cX5_goes 42 = .ok (.if_icmp .lt 22, 3) := by decide +kernel
theorem dX5_goes_45 : decode cX5_goes 45 = .ok (.iload_n 3, 1) := by decide +kernel
theorem dX5_goes_46 : decode cX5_goes 46 = .ok (.iload_n 1, 1) := by decide +kernel
theorem dX5_goes_47 : decode cX5_goes 47 = .ok (.if_icmp .le 13, 3) := by decide +kernel
theorem dX5_goes_50 : decode cX5_goes 50 = .ok (.iload_n 3, 1) := by decide +kernel
theorem dX5_goes_51 : decode cX5_goes 51 = .ok (.aload_n 0, 1) := by decide +kernel
theorem dX5_goes_52 : decode cX5_goes 52 = .ok (.getfield 9, 3) := by decide +kernel
theorem dX5_goes_55 : decode cX5_goes 55 = .ok (.iload_n 1, 1) := by decide +kernel
theorem dX5_goes_56 : decode cX5_goes 56 = .ok (.isub, 1) := by decide +kernel
theorem dX5_goes_57 : decode cX5_goes 57 = .ok (.if_icmp .lt 7, 3) := by decide +kernel
theorem dX5_goes_60 : decode cX5_goes 60 = .ok (.iconst 1, 1) := by decide +kernel
theorem dX5_goes_61 : decode cX5_goes 61 = .ok (.goto 4, 3) := by decide +kernel
theorem dX5_goes_64 : decode cX5_goes 64 = .ok (.iconst 0, 1) := by decide +kernel
theorem dX5_goes_65 : decode cX5_goes 65 = .ok (.istore 4, 2) := by decide +kernel
theorem dX5_goes_67 : decode cX5_goes 67 = .ok (.iload 4, 2) := by decide +kernel
theorem dX5_goes_69 : decode cX5_goes 69 = .ok (.ifCond .eq 33, 3) := by decide +kernel
theorem dX5_goes_72 : decode cX5_goes 72 = .ok (.aload_n 0, 1) := by decide +kernel
theorem dX5_goes_73 : decode cX5_goes 73 = .ok (.getfield 22, 3) := by decide +kernel
theorem dX5_goes_76 : decode cX5_goes 76 = .ok (.aload_n 0, 1) := by decide +kernel
theorem dX5_goes_77 : decode cX5_goes 77 = .ok (.getfield 15, 3) := by decide +kernel
theorem dX5_goes_80 : decode cX5_goes 80 = .ok (.iload_n 2, 1) := by decide +kernel
theorem dX5_goes_81 : decode cX5_goes 81 = .ok (.iaload, 1) := by decide +kernel
theorem dX5_goes_82 : decode cX5_goes 82 = .ok (.aload_n 0, 1) := by decide +kernel
theorem dX5_goes_83 : decode cX5_goes 83 = .ok (.getfield 15, 3) := by decide +kernel
theorem dX5_goes_86 : decode cX5_goes 86 = .ok (.iload_n 3, 1) := by decide +kernel
theorem dX5_goes_87 : decode cX5_goes 87 = .ok (.iaload, 1) := by decide +kernel
theorem dX5_goes_88 : decode cX5_goes 88 = .ok (.aload_n 0, 1) := by decide +kernel
theorem dX5_goes_89 : decode cX5_goes 89 = .ok (.getfield 15, 3) := by decide +kernel
theorem dX5_goes_92 : decode cX5_goes 92 = .ok (.iload_n 1, 1) := by decide +kernel
theorem dX5_goes_93 : decode cX5_goes 93 = .ok (.iaload, 1) := by decide +kernel
theorem dX5_goes_94 : decode cX5_goes 94 = .ok (.invokevirtual 75, 3) := by decide +kernel
theorem dX5_goes_97 : decode cX5_goes 97 = .ok (.ifCond .ne 5, 3) := by decide +kernel
theorem dX5_goes_100 : decode cX5_goes 100 = .ok (.iconst 0, 1) := by decide +kernel
theorem dX5_goes_101 : decode cX5_goes 101 = .ok (.ireturn, 1) := by decide +kernel
theorem dX5_goes_102 : decode cX5_goes 102 = .ok (.iinc 2 1, 3) := by decide +kernel
theorem dX5_goes_105 : decode cX5_goes 105 = .ok (.goto (-103), 3) := by decide +kernel
theorem dX5_goes_108 : decode cX5_goes 108 = .ok (.iconst 1, 1) := by decide +kernel
theorem dX5_goes_109 : decode cX5_goes 109 = .ok (.ireturn, 1) := by decide +kernel
theorem dX5_init_0 : decode cX5_init 0 = .ok (.aload_n 0, 1) := by decide +kernel
theorem dX5_init_1 : decode cX5_init 1 = .ok (.invokespecial 3, 3) := by decide +kernel
theorem dX5_init_4 : decode cX5_init 4 = .ok (.aload_n 0, 1) := by decide +kernel
theorem dX5_init_5 : decode cX5_init 5 = .ok (.iconst 2, 1) := by decide +kernel
theorem dX5_init_6 : decode cX5_init 6 = .ok (.putfield 9, 3) := by decide +kernel
theorem dX5_init_9 : decode cX5_init 9 = .ok (.aload_n 0, 1) := by decide +kernel
theorem dX5_init_10 : decode cX5_init 10 = .ok (.bipush 13, 2) := by decide +kernel
theorem dX5_init_12 : decode cX5_init 12 = .ok (.newarray .int, 2) := by decide +kernel
theorem dX5_init_14 : decode cX5_init 14 = .ok (.putfield 15, 3) := by decide +kernel
theorem dX5_init_17 : decode cX5_init 17 = .ok (.aload_n 0, 1) := by decide +kernel
theorem dX5_init_18 : decode cX5_init 18 = .ok (.iconst 4, 1) := by decide +kernel
theorem dX5_init_19 : decode cX5_init 19 = .ok (.newarray .int, 2) := by decide +kernel
theorem dX5_init_21 : decode cX5_init 21 = .ok (.putfield 19, 3) := by decide +kernel
theorem dX5_init_24 : decode cX5_init 24 = .ok (.aload_n 0, 1) := by decide +kernel
theorem dX5_init_25 : decode cX5_init 25 = .ok (.aload_n 1, 1) := by decide +kernel
theorem dX5_init_26 : decode cX5_init 26 = .ok (.putfield 22, 3) := by decide +kernel
theorem dX5_init_29 : decode cX5_init 29 = .ok (.return_, 1) := by decide +kernel
theorem dX5_isFull_0 : decode cX5_isFull 0 = .ok (.iconst 0, 1) := by decide +kernel
theorem dX5_isFull_1 : decode cX5_isFull 1 = .ok (.istore_n 1, 1) := by decide +kernel
theorem dX5_isFull_2 : decode cX5_isFull 2 = .ok (.iconst 0, 1) := by decide +kernel
theorem dX5_isFull_3 : decode cX5_isFull 3 = .ok (.istore_n 2, 1) := by decide +kernel
theorem dX5_isFull_4 : decode cX5_isFull 4 = .ok (.iload_n 2, 1) := by decide +kernel
theorem dX5_isFull_5 : decode cX5_isFull 5 = .ok (.aload_n 0, 1) := by decide +kernel
theorem dX5_isFull_6 : decode cX5_isFull 6 = .ok (.getfield 9, 3) := by decide +kernel
theorem dX5_isFull_9 : decode cX5_isFull 9 = .ok (.if_icmp .ge 20, 3) := by decide +kernel
theorem dX5_isFull_12 : decode cX5_isFull 12 = .ok (.iload_n 1, 1) := by decide +kernel
theorem dX5_isFull_13 : decode cX5_isFull 13 = .ok (.iconst 1, 1) := by decide +kernel
theorem dX5_isFull_14 : decode cX5_isFull 14 = .ok (.aload_n 0, 1) := by decide +kernel
theorem dX5_isFull_15 : decode cX5_isFull 15 = .ok (.getfield 15, 3) := by decide +kernel
theorem dX5_isFull_18 : decode cX5_isFull 18 = .ok (.iload_n 2, 1) := by decide +kernel
theorem dX5_isFull_19 : decode cX5_isFull 19 = .ok (.iaload, 1) := by decide +kernel
theorem dX5_isFull_20 : decode cX5_isFull 20 = .ok (.ishl, 1) := by decide +kernel
theorem dX5_isFull_21 : decode cX5_isFull 21 = .ok (.ior, 1) := by decide +kernel
theorem dX5_isFull_22 : decode cX5_isFull 22 = .ok (.istore_n 1, 1) := by decide +kernel
theorem dX5_isFull_23 : decode cX5_isFull 23 = .ok (.iinc 2 1, 3) := by decide +kernel
theorem dX5_isFull_26 : decode cX5_isFull 26 = .ok (.goto (-22), 3) := by decide +kernel
theorem dX5_isFull_29 : decode cX5_isFull 29 = .ok (.iload_n 1, 1) := by decide +kernel
theorem dX5_isFull_30 : decode cX5_isFull 30 = .ok (.aload_n 0, 1) := by decide +kernel
theorem dX5_isFull_31 : decode cX5_isFull 31 = .ok (.getfield 22, 3) := by decide +kernel
theorem dX5_isFull_34 : decode cX5_isFull 34 = .ok (.invokevirtual 45, 3) := by decide +kernel
theorem dX5_isFull_37 : decode cX5_isFull 37 = .ok (.iconst 1, 1) := by decide +kernel
theorem dX5_isFull_38 : decode cX5_isFull 38 = .ok (.isub, 1) := by decide +kernel
theorem dX5_isFull_39 : decode cX5_isFull 39 = .ok (.if_icmp .ne 7, 3) := by decide +kernel
theorem dX5_isFull_42 : decode cX5_isFull 42 = .ok (.iconst 1, 1) := by decide +kernel
theorem dX5_isFull_43 : decode cX5_isFull 43 = .ok (.goto 4, 3) := by decide +kernel
theorem dX5_isFull_46 : decode cX5_isFull 46 = .ok (.iconst 0, 1) := by decide +kernel
theorem dX5_isFull_47 : decode cX5_isFull 47 = .ok (.ireturn, 1) := by decide +kernel
theorem dX5_misfit_0 : decode cX5_misfit 0 = .ok (.iconst 0, 1) := by decide +kernel
theorem dX5_misfit_1 : decode cX5_misfit 1 = .ok (.istore_n 1, 1) := by decide +kernel
theorem dX5_misfit_2 : decode cX5_misfit 2 = .ok (.iload_n 1, 1) := by decide +kernel
theorem dX5_misfit_3 : decode cX5_misfit 3 = .ok (.aload_n 0, 1) := by decide +kernel
theorem dX5_misfit_4 : decode cX5_misfit 4 = .ok (.getfield 9, 3) := by decide +kernel
theorem dX5_misfit_7 : decode cX5_misfit 7 = .ok (.if_icmp .ge 82, 3) := by decide +kernel
theorem dX5_misfit_10 : decode cX5_misfit 10 = .ok (.iconst 0, 1) := by decide +kernel
theorem dX5_misfit_11 : decode cX5_misfit 11 = .ok (.istore_n 2, 1) := by decide +kernel
theorem dX5_misfit_12 : decode cX5_misfit 12 = .ok (.iconst 0, 1) := by decide +kernel
theorem dX5_misfit_13 : decode cX5_misfit 13 = .ok (.istore_n 3, 1) := by decide +kernel
theorem dX5_misfit_14 : decode cX5_misfit 14 = .ok (.iload_n 3, 1) := by decide +kernel
theorem dX5_misfit_15 : decode cX5_misfit 15 = .ok (.aload_n 0, 1) := by decide +kernel
theorem dX5_misfit_16 : decode cX5_misfit 16 = .ok (.getfield 9, 3) := by decide +kernel
theorem dX5_misfit_19 : decode cX5_misfit 19 = .ok (.if_icmp .ge 47, 3) := by decide +kernel
theorem dX5_misfit_22 : decode cX5_misfit 22 = .ok (.iload_n 2, 1) := by decide +kernel
theorem dX5_misfit_23 : decode cX5_misfit 23 = .ok (.iconst 1, 1) := by decide +kernel
theorem dX5_misfit_24 : decode cX5_misfit 24 = .ok (.iconst 4, 1) := by decide +kernel
theorem dX5_misfit_25 : decode cX5_misfit 25 = .ok (.aload_n 0, 1) := by decide +kernel
theorem dX5_misfit_26 : decode cX5_misfit 26 = .ok (.getfield 15, 3) := by decide +kernel
theorem dX5_misfit_29 : decode cX5_misfit 29 = .ok (.iload_n 3, 1) := by decide +kernel
theorem dX5_misfit_30 : decode cX5_misfit 30 = .ok (.iaload, 1) := by decide +kernel
theorem dX5_misfit_31 : decode cX5_misfit 31 = .ok (.imul, 1) := by decide +kernel
theorem dX5_misfit_32 : decode cX5_misfit 32 = .ok (.aload_n 0, 1) := by decide +kernel
theorem dX5_misfit_33 : decode cX5_misfit 33 = .ok (.getfield 15, 3) := by decide +kernel
theorem dX5_misfit_36 : decode cX5_misfit 36 = .ok (.iload_n 3, 1) := by decide +kernel
theorem dX5_misfit_37 : decode cX5_misfit 37 = .ok (.iload_n 1, 1) := by decide +kernel
theorem dX5_misfit_38 : decode cX5_misfit 38 = .ok (.if_icmp .gt 9, 3) := by decide +kernel
theorem dX5_misfit_41 : decode cX5_misfit 41 = .ok (.iload_n 1, 1) := by decide +kernel
theorem dX5_misfit_42 : decode cX5_misfit 42 = .ok (.iload_n 3, 1) := by decide +kernel
theorem dX5_misfit_43 : decode cX5_misfit 43 = .ok (.isub, 1) := by decide +kernel
theorem dX5_misfit_44 : decode cX5_misfit 44 = .ok (.goto 11, 3) := by decide +kernel
theorem dX5_misfit_47 : decode cX5_misfit 47 = .ok (.iload_n 1, 1) := by decide +kernel
theorem dX5_misfit_48 : decode cX5_misfit 48 = .ok (.iload_n 3, 1) := by decide +kernel
theorem dX5_misfit_49 : decode cX5_misfit 49 = .ok (.isub, 1) := by decide +kernel
theorem dX5_misfit_50 : decode cX5_misfit 50 = .ok (.aload_n 0, 1) := by decide +kernel
theorem dX5_misfit_51 : decode cX5_misfit 51 = .ok (.getfield 9, 3) := by decide +kernel
theorem dX5_misfit_54 : decode cX5_misfit 54 = .ok (.iadd, 1) := by decide +kernel
theorem dX5_misfit_55 : decode cX5_misfit 55 = .ok (.iaload, 1) := by decide +kernel
theorem dX5_misfit_56 : decode cX5_misfit 56 = .ok (.iadd, 1) := by decide +kernel
theorem dX5_misfit_57 : decode cX5_misfit 57 = .ok (.ishl, 1) := by decide +kernel
theorem dX5_misfit_58 : decode cX5_misfit 58 = .ok (.ior, 1) := by decide +kernel
theorem dX5_misfit_59 : decode cX5_misfit 59 = .ok (.istore_n 2, 1) := by decide +kernel
theorem dX5_misfit_60 : decode cX5_misfit 60 = .ok (.iinc 3 1, 3) := by decide +kernel
theorem dX5_misfit_63 : decode cX5_misfit 63 = .ok (.goto (-49), 3) := by decide +kernel
theorem dX5_misfit_66 : decode cX5_misfit 66 = .ok (.iload_n 2, 1) := by decide +kernel
theorem dX5_misfit_67 : decode cX5_misfit 67 = .ok (.aload_n 0, 1) := by decide +kernel
theorem dX5_misfit_68 : decode cX5_misfit 68 = .ok (.getfield 19, 3) := by decide +kernel
theorem dX5_misfit_71 : decode cX5_misfit 71 = .ok (.aload_n 0, 1) := by decide +kernel
theorem dX5_misfit_72 : decode cX5_misfit 72 = .ok (.getfield 15, 3) := by decide +kernel
theorem dX5_misfit_75 : decode cX5_misfit 75 = .ok (.iload_n 1, 1) := by decide +kernel
theorem dX5_misfit_76 : decode cX5_misfit 76 = .ok (.iaload, 1) := by decide +kernel
theorem dX5_misfit_77 : decode cX5_misfit 77 = .ok (.iaload, 1) := by decide +kernel
theorem dX5_misfit_78 : decode cX5_misfit 78 = .ok (.if_icmp .eq 5, 3) := by decide +kernel
theorem dX5_misfit_81 : decode cX5_misfit 81 = .ok (.iload_n 1, 1) := by decide +kernel
theorem dX5_misfit_82 : decode cX5_misfit 82 = .ok (.ireturn, 1) := by decide +kernel
theorem dX5_misfit_83 : decode cX5_misfit 83 = .ok (.iinc 1 1, 3) := by decide +kernel
theorem dX5_misfit_86 : decode cX5_misfit 86 = .ok (.goto (-84), 3) := by decide +kernel
theorem dX5_misfit_89 : decode cX5_misfit 89 = .ok (.iconst (-1), 1) := by decide +kernel
theorem dX5_misfit_90 : decode cX5_misfit 90 = .ok (.ireturn, 1) := by decide +kernel
theorem dX5_readDue_0 : decode cX5_readDue 0 = .ok (.iconst 0, 1) := by decide +kernel
theorem dX5_readDue_1 : decode cX5_readDue 1 = .ok (.istore_n 1, 1) := by decide +kernel
theorem dX5_readDue_2 : decode cX5_readDue 2 = .ok (.iload_n 1, 1) := by decide +kernel
theorem dX5_readDue_3 : decode cX5_readDue 3 = .ok (.aload_n 0, 1) := by decide +kernel
theorem dX5_readDue_4 : decode cX5_readDue 4 = .ok (.getfield 22, 3) := by decide +kernel
theorem dX5_readDue_7 : decode cX5_readDue 7 = .ok (.getfield 26, 3) := by decide +kernel
theorem dX5_readDue_10 : decode cX5_readDue 10 = .ok (.if_icmp .ge 23, 3) := by decide +kernel
theorem dX5_readDue_13 : decode cX5_readDue 13 = .ok (.aload_n 0, 1) := by decide +kernel
theorem dX5_readDue_14 : decode cX5_readDue 14 = .ok (.getfield 19, 3) := by decide +kernel
theorem dX5_readDue_17 : decode cX5_readDue 17 = .ok (.iload_n 1, 1) := by decide +kernel
theorem dX5_readDue_18 : decode cX5_readDue 18 = .ok (.aload_n 0, 1) := by decide +kernel
theorem dX5_readDue_19 : decode cX5_readDue 19 = .ok (.getfield 22, 3) := by decide +kernel
theorem dX5_readDue_22 : decode cX5_readDue 22 = .ok (.iload_n 1, 1) := by decide +kernel
theorem dX5_readDue_23 : decode cX5_readDue 23 = .ok (.invokevirtual 48, 3) := by decide +kernel
theorem dX5_readDue_26 : decode cX5_readDue 26 = .ok (.iastore, 1) := by decide +kernel
theorem dX5_readDue_27 : decode cX5_readDue 27 = .ok (.iinc 1 1, 3) := by decide +kernel
theorem dX5_readDue_30 : decode cX5_readDue 30 = .ok (.goto (-28), 3) := by decide +kernel
theorem dX5_readDue_33 : decode cX5_readDue 33 = .ok (.return_, 1) := by decide +kernel
theorem dX5_search_0 : decode cX5_search 0 = .ok (.aload_n 0, 1) := by decide +kernel
theorem dX5_search_1 : decode cX5_search 1 = .ok (.getfield 22, 3) := by decide +kernel
theorem dX5_search_4 : decode cX5_search 4 = .ok (.iconst 0, 1) := by decide +kernel
theorem dX5_search_5 : decode cX5_search 5 = .ok (.invokevirtual 52, 3) := by decide +kernel
theorem dX5_search_8 : decode cX5_search 8 = .ok (.bipush (-5), 2) := by decide +kernel
theorem dX5_search_10 : decode cX5_search 10 = .ok (.if_icmp .eq 6, 3) := by decide +kernel
theorem dX5_search_13 : decode cX5_search 13 = .ok (.bipush (-5), 2) := by decide +kernel
theorem dX5_search_15 : decode cX5_search 15 = .ok (.ireturn, 1) := by decide +kernel
theorem dX5_search_16 : decode cX5_search 16 = .ok (.aload_n 0, 1) := by decide +kernel
theorem dX5_search_17 : decode cX5_search 17 = .ok (.invokevirtual 38, 3) := by decide +kernel
theorem dX5_search_20 : decode cX5_search 20 = .ok (.iconst 2, 1) := by decide +kernel
theorem dX5_search_21 : decode cX5_search 21 = .ok (.istore_n 1, 1) := by decide +kernel
theorem dX5_search_22 : decode cX5_search 22 = .ok (.iload_n 1, 1) := by decide +kernel
theorem dX5_search_23 : decode cX5_search 23 = .ok (.bipush 13, 2) := by decide +kernel
theorem dX5_search_25 : decode cX5_search 25 = .ok (.if_icmp .gt 75, 3) := by decide +kernel
theorem dX5_search_28 : decode cX5_search 28 = .ok (.aload_n 0, 1) := by decide +kernel
theorem dX5_search_29 : decode cX5_search 29 = .ok (.iload_n 1, 1) := by decide +kernel
theorem dX5_search_30 : decode cX5_search 30 = .ok (.putfield 9, 3) := by decide +kernel
theorem dX5_search_33 : decode cX5_search 33 = .ok (.aload_n 0, 1) := by decide +kernel
theorem dX5_search_34 : decode cX5_search 34 = .ok (.iload_n 1, 1) := by decide +kernel
theorem dX5_search_35 : decode cX5_search 35 = .ok (.iconst 2, 1) := by decide +kernel
theorem dX5_search_36 : decode cX5_search 36 = .ok (.idiv, 1) := by decide +kernel
theorem dX5_search_37 : decode cX5_search 37 = .ok (.iconst 1, 1) := by decide +kernel
theorem dX5_search_38 : decode cX5_search 38 = .ok (.aload_n 0, 1) := by decide +kernel
theorem dX5_search_39 : decode cX5_search 39 = .ok (.getfield 22, 3) := by decide +kernel
theorem dX5_search_42 : decode cX5_search 42 = .ok (.getfield 26, 3) := by decide +kernel
theorem dX5_search_45 : decode cX5_search 45 = .ok (.iconst 1, 1) := by decide +kernel
theorem dX5_search_46 : decode cX5_search 46 = .ok (.isub, 1) := by decide +kernel
theorem dX5_search_47 : decode cX5_search 47 = .ok (.invokevirtual 56, 3) := by decide +kernel
theorem dX5_search_50 : decode cX5_search 50 = .ok (.aload_n 0, 1) := by decide +kernel
theorem dX5_search_51 : decode cX5_search 51 = .ok (.invokevirtual 60, 3) := by decide +kernel
theorem dX5_search_54 : decode cX5_search 54 = .ok (.istore_n 2, 1) := by decide +kernel
theorem dX5_search_55 : decode cX5_search 55 = .ok (.iconst 0, 1) := by decide +kernel
theorem dX5_search_56 : decode cX5_search 56 = .ok (.istore_n 3, 1) := by decide +kernel
theorem dX5_search_57 : decode cX5_search 57 = .ok (.iload_n 3, 1) := by decide +kernel
theorem dX5_search_58 : decode cX5_search 58 = .ok (.ldc 63, 2) := by decide +kernel
theorem dX5_search_60 : decode cX5_search 60 = .ok (.if_icmp .ge 34, 3) := by decide +kernel
theorem dX5_search_63 : decode cX5_search 63 = .ok (.iload_n 2, 1) := by decide +kernel
theorem dX5_search_64 : decode cX5_search 64 = .ok (.ifCond .eq 30, 3) := by decide +kernel
theorem dX5_search_67 : decode cX5_search 67 = .ok (.aload_n 0, 1) := by decide +kernel
theorem dX5_search_68 : decode cX5_search 68 = .ok (.invokevirtual 34, 3) := by decide +kernel
theorem dX5_search_71 : decode cX5_search 71 = .ok (.ifCond .eq 12, 3) := by decide +kernel
theorem dX5_search_74 : decode cX5_search 74 = .ok (.aload_n 0, 1) := by decide +kernel
theorem dX5_search_75 : decode cX5_search 75 = .ok (.invokevirtual 41, 3) := by decide +kernel
theorem dX5_search_78 : decode cX5_search 78 = .ok (.ifCond .ge 5, 3) := by decide +kernel
theorem dX5_search_81 : decode cX5_search 81 = .ok (.iload_n 1, 1) := by decide +kernel
theorem dX5_search_82 : decode cX5_search 82 = .ok (.ireturn, 1) := by decide +kernel
theorem dX5_search_83 : decode cX5_search 83 = .ok (.aload_n 0, 1) := by decide +kernel
theorem dX5_search_84 : decode cX5_search 84 = .ok (.invokevirtual 64, 3) := by decide +kernel
theorem dX5_search_87 : decode cX5_search 87 = .ok (.istore_n 2, 1) := by decide +kernel
theorem dX5_search_88 : decode cX5_search 88 = .ok (.iinc 3 1, 3) := by decide +kernel
theorem dX5_search_91 : decode cX5_search 91 = .ok (.goto (-34), 3) := by decide +kernel
theorem dX5_search_94 : decode cX5_search 94 = .ok (.iinc 1 1, 3) := by decide +kernel
theorem dX5_search_97 : decode cX5_search 97 = .ok (.goto (-75), 3) := by decide +kernel
theorem dX5_search_100 : decode cX5_search 100 = .ok (.bipush (-5), 2) := by decide +kernel
theorem dX5_search_102 : decode cX5_search 102 = .ok (.ireturn, 1) := by decide +kernel
theorem dX5_verdict_0 : decode cX5_verdict 0 = .ok (.iconst 0, 1) := by decide +kernel
theorem dX5_verdict_1 : decode cX5_verdict 1 = .ok (.istore 4, 2) := by decide +kernel
theorem dX5_verdict_3 : decode cX5_verdict 3 = .ok (.iload 4, 2) := by decide +kernel
theorem dX5_verdict_5 : decode cX5_verdict 5 = .ok (.iload_n 3, 1) := by decide +kernel
theorem dX5_verdict_6 : decode cX5_verdict 6 = .ok (.if_icmp .ge 88, 3) := by decide +kernel
theorem dX5_verdict_9 : decode cX5_verdict 9 = .ok (.aload_n 1, 1) := by decide +kernel
theorem dX5_verdict_10 : decode cX5_verdict 10 = .ok (.iload_n 2, 1) := by decide +kernel
theorem dX5_verdict_11 : decode cX5_verdict 11 = .ok (.iload 4, 2) := by decide +kernel
theorem dX5_verdict_13 : decode cX5_verdict 13 = .ok (.iadd, 1) := by decide +kernel
theorem dX5_verdict_14 : decode cX5_verdict 14 = .ok (.laload, 1) := by decide +kernel
theorem dX5_verdict_15 : decode cX5_verdict 15 = .ok (.lstore 5, 2) := by decide +kernel
theorem dX5_verdict_17 : decode cX5_verdict 17 = .ok (.lload 5, 2) := by decide +kernel
theorem dX5_verdict_19 : decode cX5_verdict 19 = .ok (.lconst 1, 1) := by decide +kernel
theorem dX5_verdict_20 : decode cX5_verdict 20 = .ok (.lcmp, 1) := by decide +kernel
theorem dX5_verdict_21 : decode cX5_verdict 21 = .ok (.ifCond .lt 17, 3) := by decide +kernel
theorem dX5_verdict_24 : decode cX5_verdict 24 = .ok (.lload 5, 2) := by decide +kernel
theorem dX5_verdict_26 : decode cX5_verdict 26 = .ok (.aload_n 0, 1) := by decide +kernel
theorem dX5_verdict_27 : decode cX5_verdict 27 = .ok (.getfield 22, 3) := by decide +kernel
theorem dX5_verdict_30 : decode cX5_verdict 30 = .ok (.getfield 26, 3) := by decide +kernel
theorem dX5_verdict_33 : decode cX5_verdict 33 = .ok (.i2l, 1) := by decide +kernel
theorem dX5_verdict_34 : decode cX5_verdict 34 = .ok (.lcmp, 1) := by decide +kernel
theorem dX5_verdict_35 : decode cX5_verdict 35 = .ok (.ifCond .lt 6, 3) := by decide +kernel
theorem dX5_verdict_38 : decode cX5_verdict 38 = .ok (.iload 4, 2) := by decide +kernel
theorem dX5_verdict_40 : decode cX5_verdict 40 = .ok (.ireturn, 1) := by decide +kernel
theorem dX5_verdict_41 : decode cX5_verdict 41 = .ok (.aload_n 0, 1) := by decide +kernel
theorem dX5_verdict_42 : decode cX5_verdict 42 = .ok (.getfield 15, 3) := by decide +kernel
theorem dX5_verdict_45 : decode cX5_verdict 45 = .ok (.iload 4, 2) := by decide +kernel
theorem dX5_verdict_47 : decode cX5_verdict 47 = .ok (.iconst 1, 1) := by decide +kernel
theorem dX5_verdict_48 : decode cX5_verdict 48 = .ok (.iadd, 1) := by decide +kernel
theorem dX5_verdict_49 : decode cX5_verdict 49 = .ok (.lload 5, 2) := by decide +kernel
theorem dX5_verdict_51 : decode cX5_verdict 51 = .ok (.l2i, 1) := by decide +kernel
theorem dX5_verdict_52 : decode cX5_verdict 52 = .ok (.iastore, 1) := by decide +kernel
theorem dX5_verdict_53 : decode cX5_verdict 53 = .ok (.aload_n 1, 1) := by decide +kernel
theorem dX5_verdict_54 : decode cX5_verdict 54 = .ok (.iload_n 2, 1) := by decide +kernel
theorem dX5_verdict_55 : decode cX5_verdict 55 = .ok (.iload_n 3, 1) := by decide +kernel
theorem dX5_verdict_56 : decode cX5_verdict 56 = .ok (.iadd, 1) := by decide +kernel
theorem dX5_verdict_57 : decode cX5_verdict 57 = .ok (.iconst 1, 1) := by decide +kernel
theorem dX5_verdict_58 : decode cX5_verdict 58 = .ok (.isub, 1) := by decide +kernel
theorem dX5_verdict_59 : decode cX5_verdict 59 = .ok (.iload 4, 2) := by decide +kernel
theorem dX5_verdict_61 : decode cX5_verdict 61 = .ok (.isub, 1) := by decide +kernel
theorem dX5_verdict_62 : decode cX5_verdict 62 = .ok (.laload, 1) := by decide +kernel
theorem dX5_verdict_63 : decode cX5_verdict 63 = .ok (.aload_n 0, 1) := by decide +kernel
theorem dX5_verdict_64 : decode cX5_verdict 64 = .ok (.getfield 22, 3) := by decide +kernel
theorem dX5_verdict_67 : decode cX5_verdict 67 = .ok (.getfield 31, 3) := by decide +kernel
theorem dX5_verdict_70 : decode cX5_verdict 70 = .ok (.aload_n 0, 1) := by decide +kernel
theorem dX5_verdict_71 : decode cX5_verdict 71 = .ok (.getfield 15, 3) := by decide +kernel
theorem dX5_verdict_74 : decode cX5_verdict 74 = .ok (.iload 4, 2) := by decide +kernel
theorem dX5_verdict_76 : decode cX5_verdict 76 = .ok (.iconst 1, 1) := by decide +kernel
theorem dX5_verdict_77 : decode cX5_verdict 77 = .ok (.iadd, 1) := by decide +kernel
theorem dX5_verdict_78 : decode cX5_verdict 78 = .ok (.iaload, 1) := by decide +kernel
theorem dX5_verdict_79 : decode cX5_verdict 79 = .ok (.iaload, 1) := by decide +kernel
theorem dX5_verdict_80 : decode cX5_verdict 80 = .ok (.i2l, 1) := by decide +kernel
theorem dX5_verdict_81 : decode cX5_verdict 81 = .ok (.lcmp, 1) := by decide +kernel
theorem dX5_verdict_82 : decode cX5_verdict 82 = .ok (.ifCond .eq 6, 3) := by decide +kernel
theorem dX5_verdict_85 : decode cX5_verdict 85 = .ok (.iload 4, 2) := by decide +kernel
theorem dX5_verdict_87 : decode cX5_verdict 87 = .ok (.ireturn, 1) := by decide +kernel
theorem dX5_verdict_88 : decode cX5_verdict 88 = .ok (.iinc 4 1, 3) := by decide +kernel
theorem dX5_verdict_91 : decode cX5_verdict 91 = .ok (.goto (-88), 3) := by decide +kernel
theorem dX5_verdict_94 : decode cX5_verdict 94 = .ok (.aload_n 0, 1) := by decide +kernel
theorem dX5_verdict_95 : decode cX5_verdict 95 = .ok (.iload_n 3, 1) := by decide +kernel
theorem dX5_verdict_96 : decode cX5_verdict 96 = .ok (.iconst 1, 1) := by decide +kernel
theorem dX5_verdict_97 : decode cX5_verdict 97 = .ok (.iadd, 1) := by decide +kernel
theorem dX5_verdict_98 : decode cX5_verdict 98 = .ok (.putfield 9, 3) := by decide +kernel
theorem dX5_verdict_101 : decode cX5_verdict 101 = .ok (.aload_n 0, 1) := by decide +kernel
theorem dX5_verdict_102 : decode cX5_verdict 102 = .ok (.invokevirtual 34, 3) := by decide +kernel
theorem dX5_verdict_105 : decode cX5_verdict 105 = .ok (.ifCond .ne 7, 3) := by decide +kernel
theorem dX5_verdict_108 : decode cX5_verdict 108 = .ok (.sipush 200, 3) := by decide +kernel
theorem dX5_verdict_111 : decode cX5_verdict 111 = .ok (.ireturn, 1) := by decide +kernel
theorem dX5_verdict_112 : decode cX5_verdict 112 = .ok (.aload_n 0, 1) := by decide +kernel
theorem dX5_verdict_113 : decode cX5_verdict 113 = .ok (.invokevirtual 38, 3) := by decide +kernel
theorem dX5_verdict_116 : decode cX5_verdict 116 = .ok (.aload_n 0, 1) := by decide +kernel
theorem dX5_verdict_117 : decode cX5_verdict 117 = .ok (.invokevirtual 41, 3) := by decide +kernel
theorem dX5_verdict_120 : decode cX5_verdict 120 = .ok (.istore 4, 2) := by decide +kernel
theorem dX5_verdict_122 : decode cX5_verdict 122 = .ok (.iload 4, 2) := by decide +kernel
theorem dX5_verdict_124 : decode cX5_verdict 124 = .ok (.ifCond .ge 8, 3) := by decide +kernel
theorem dX5_verdict_127 : decode cX5_verdict 127 = .ok (.bipush (-5), 2) := by decide +kernel
theorem dX5_verdict_129 : decode cX5_verdict 129 = .ok (.goto 8, 3) := by decide +kernel
theorem dX5_verdict_132 : decode cX5_verdict 132 = .ok (.bipush 100, 2) := by decide +kernel
theorem dX5_verdict_134 : decode cX5_verdict 134 = .ok (.iload 4, 2) := by decide +kernel
theorem dX5_verdict_136 : decode cX5_verdict 136 = .ok (.iadd, 1) := by decide +kernel
theorem dX5_verdict_137 : decode cX5_verdict 137 = .ok (.ireturn, 1) := by decide +kernel
theorem dX6_clash_0 : decode cX6_clash 0 = .ok (.iload_n 1, 1) := by decide +kernel
theorem dX6_clash_1 : decode cX6_clash 1 = .ok (.istore_n 2, 1) := by decide +kernel
theorem dX6_clash_2 : decode cX6_clash 2 = .ok (.iload_n 2, 1) := by decide +kernel
theorem dX6_clash_3 : decode cX6_clash 3 = .ok (.ifCond .lt 60, 3) := by decide +kernel
theorem dX6_clash_6 : decode cX6_clash 6 = .ok (.iload_n 2, 1) := by decide +kernel
theorem dX6_clash_7 : decode cX6_clash 7 = .ok (.iconst 1, 1) := by decide +kernel
theorem dX6_clash_8 : decode cX6_clash 8 = .ok (.iadd, 1) := by decide +kernel
theorem dX6_clash_9 : decode cX6_clash 9 = .ok (.istore_n 3, 1) := by decide +kernel
theorem dX6_clash_10 : decode cX6_clash 10 = .ok (.iload_n 3, 1) := by decide +kernel
theorem dX6_clash_11 : decode cX6_clash 11 = .ok (.aload_n 0, 1) := by decide +kernel
theorem dX6_clash_12 : decode cX6_clash 12 = .ok (.getfield 30, 3) := by decide +kernel
theorem dX6_clash_15 : decode cX6_clash 15 = .ok (.if_icmp .ge 42, 3) := by decide +kernel
theorem dX6_clash_18 : decode cX6_clash 18 = .ok (.aload_n 0, 1) := by decide +kernel
theorem dX6_clash_19 : decode cX6_clash 19 = .ok (.getfield 7, 3) := by decide +kernel
theorem dX6_clash_22 : decode cX6_clash 22 = .ok (.aload_n 0, 1) := by decide +kernel
theorem dX6_clash_23 : decode cX6_clash 23 = .ok (.getfield 13, 3) := by decide +kernel
theorem dX6_clash_26 : decode cX6_clash 26 = .ok (.iload_n 2, 1) := by decide +kernel
theorem dX6_clash_27 : decode cX6_clash 27 = .ok (.iload_n 3, 1) := by decide +kernel
theorem dX6_clash_28 : decode cX6_clash 28 = .ok (.invokevirtual 31, 3) := by decide +kernel
theorem dX6_clash_31 : decode cX6_clash 31 = .ok (.aload_n 0, 1) := by decide +kernel
theorem dX6_clash_32 : decode cX6_clash 32 = .ok (.getfield 35, 3) := by decide +kernel
theorem dX6_clash_35 : decode cX6_clash 35 = .ok (.iload_n 3, 1) := by decide +kernel
theorem dX6_clash_36 : decode cX6_clash 36 = .ok (.iaload, 1) := by decide +kernel
theorem dX6_clash_37 : decode cX6_clash 37 = .ok (.aload_n 0, 1) := by decide +kernel
theorem dX6_clash_38 : decode cX6_clash 38 = .ok (.getfield 35, 3) := by decide +kernel
theorem dX6_clash_41 : decode cX6_clash 41 = .ok (.iload_n 2, 1) := by decide +kernel
theorem dX6_clash_42 : decode cX6_clash 42 = .ok (.iaload, 1) := by decide +kernel
theorem dX6_clash_43 : decode cX6_clash 43 = .ok (.invokevirtual 38, 3) := by decide +kernel
theorem dX6_clash_46 : decode cX6_clash 46 = .ok (.ifCond .ne 5, 3) := by decide +kernel
theorem dX6_clash_49 : decode cX6_clash 49 = .ok (.iload_n 2, 1) := by decide +kernel
theorem dX6_clash_50 : decode cX6_clash 50 = .ok (.ireturn, 1) := by decide +kernel
theorem dX6_clash_51 : decode cX6_clash 51 = .ok (.iinc 3 1, 3) := by decide +kernel
theorem dX6_clash_54 : decode cX6_clash 54 = .ok (.goto (-44), 3) := by decide +kernel
theorem dX6_clash_57 : decode cX6_clash 57 = .ok (.iinc 2 (-1), 3) := by decide +kernel
theorem dX6_clash_60 : decode cX6_clash 60 = .ok (.goto (-58), 3) := by decide +kernel
theorem dX6_clash_63 : decode cX6_clash 63 = .ok (.iconst (-1), 1) := by decide +kernel
theorem dX6_clash_64 : decode cX6_clash 64 = .ok (.ireturn, 1) := by decide +kernel
theorem dX6_init_0 : decode cX6_init 0 = .ok (.aload_n 0, 1) := by decide +kernel
theorem dX6_init_1 : decode cX6_init 1 = .ok (.invokespecial 1, 3) := by decide +kernel
theorem dX6_init_4 : decode cX6_init 4 = .ok (.aload_n 0, 1) := by decide +kernel
theorem dX6_init_5 : decode cX6_init 5 = .ok (.aload_n 1, 1) := by decide +kernel
theorem dX6_init_6 : decode cX6_init 6 = .ok (.putfield 7, 3) := by decide +kernel
theorem dX6_init_9 : decode cX6_init 9 = .ok (.aload_n 0, 1) := by decide +kernel
theorem dX6_init_10 : decode cX6_init 10 = .ok (.aload_n 2, 1) := by decide +kernel
theorem dX6_init_11 : decode cX6_init 11 = .ok (.putfield 13, 3) := by decide +kernel
theorem dX6_init_14 : decode cX6_init 14 = .ok (.return_, 1) := by decide +kernel
theorem dX6_spanAll_0 : decode cX6_spanAll 0 = .ok (.aload_n 0, 1) := by decide +kernel
theorem dX6_spanAll_1 : decode cX6_spanAll 1 = .ok (.aload_n 0, 1) := by decide +kernel
theorem dX6_spanAll_2 : decode cX6_spanAll 2 = .ok (.getfield 13, 3) := by decide +kernel
theorem dX6_spanAll_5 : decode cX6_spanAll 5 = .ok (.getfield 17, 3) := by decide +kernel
theorem dX6_spanAll_8 : decode cX6_spanAll 8 = .ok (.iconst 1, 1) := by decide +kernel
theorem dX6_spanAll_9 : decode cX6_spanAll 9 = .ok (.aload_n 0, 1) := by decide +kernel
theorem dX6_spanAll_10 : decode cX6_spanAll 10 = .ok (.getfield 7, 3) := by decide +kernel
theorem dX6_spanAll_13 : decode cX6_spanAll 13 = .ok (.getfield 23, 3) := by decide +kernel
theorem dX6_spanAll_16 : decode cX6_spanAll 16 = .ok (.iconst 1, 1) := by decide +kernel
theorem dX6_spanAll_17 : decode cX6_spanAll 17 = .ok (.isub, 1) := by decide +kernel
theorem dX6_spanAll_18 : decode cX6_spanAll 18 = .ok (.invokevirtual 26, 3) := by decide +kernel
theorem dX6_spanAll_21 : decode cX6_spanAll 21 = .ok (.return_, 1) := by decide +kernel
theorem dX7_become_0 : decode cX7_become 0 = .ok (.aload_n 0, 1) := by decide +kernel
theorem dX7_become_1 : decode cX7_become 1 = .ok (.getfield 12, 3) := by decide +kernel
theorem dX7_become_4 : decode cX7_become 4 = .ok (.aload_n 1, 1) := by decide +kernel
theorem dX7_become_5 : decode cX7_become 5 = .ok (.getfield 12, 3) := by decide +kernel
theorem dX7_become_8 : decode cX7_become 8 = .ok (.invokevirtual 37, 3) := by decide +kernel
theorem dX7_become_11 : decode cX7_become 11 = .ok (.iconst 0, 1) := by decide +kernel
theorem dX7_become_12 : decode cX7_become 12 = .ok (.istore_n 2, 1) := by decide +kernel
theorem dX7_become_13 : decode cX7_become 13 = .ok (.iload_n 2, 1) := by decide +kernel
theorem dX7_become_14 : decode cX7_become 14 = .ok (.iconst 3, 1) := by decide +kernel
theorem dX7_become_15 : decode cX7_become 15 = .ok (.if_icmp .ge 24, 3) := by decide +kernel
theorem dX7_become_18 : decode cX7_become 18 = .ok (.aload_n 0, 1) := by decide +kernel
theorem dX7_become_19 : decode cX7_become 19 = .ok (.getfield 20, 3) := by decide +kernel
theorem dX7_become_22 : decode cX7_become 22 = .ok (.iload_n 2, 1) := by decide +kernel
theorem dX7_become_23 : decode cX7_become 23 = .ok (.aaload, 1) := by decide +kernel
theorem dX7_become_24 : decode cX7_become 24 = .ok (.aload_n 1, 1) := by decide +kernel
theorem dX7_become_25 : decode cX7_become 25 = .ok (.getfield 20, 3) := by decide +kernel
theorem dX7_become_28 : decode cX7_become 28 = .ok (.iload_n 2, 1) := by decide +kernel
theorem dX7_become_29 : decode cX7_become 29 = .ok (.aaload, 1) := by decide +kernel
theorem dX7_become_30 : decode cX7_become 30 = .ok (.invokevirtual 41, 3) := by decide +kernel
theorem dX7_become_33 : decode cX7_become 33 = .ok (.iinc 2 1, 3) := by decide +kernel
theorem dX7_become_36 : decode cX7_become 36 = .ok (.goto (-23), 3) := by decide +kernel
theorem dX7_become_39 : decode cX7_become 39 = .ok (.aload_n 0, 1) := by decide +kernel
theorem dX7_become_40 : decode cX7_become 40 = .ok (.getfield 25, 3) := by decide +kernel
theorem dX7_become_43 : decode cX7_become 43 = .ok (.aload_n 1, 1) := by decide +kernel
theorem dX7_become_44 : decode cX7_become 44 = .ok (.getfield 25, 3) := by decide +kernel
theorem dX7_become_47 : decode cX7_become 47 = .ok (.invokevirtual 41, 3) := by decide +kernel
theorem dX7_become_50 : decode cX7_become 50 = .ok (.aload_n 0, 1) := by decide +kernel
theorem dX7_become_51 : decode cX7_become 51 = .ok (.aload_n 1, 1) := by decide +kernel
theorem dX7_become_52 : decode cX7_become 52 = .ok (.getfield 29, 3) := by decide +kernel
theorem dX7_become_55 : decode cX7_become 55 = .ok (.putfield 29, 3) := by decide +kernel
theorem dX7_become_58 : decode cX7_become 58 = .ok (.return_, 1) := by decide +kernel
theorem dX7_clearNets_0 : decode cX7_clearNets 0 = .ok (.iconst 0, 1) := by decide +kernel
theorem dX7_clearNets_1 : decode cX7_clearNets 1 = .ok (.istore_n 1, 1) := by decide +kernel
theorem dX7_clearNets_2 : decode cX7_clearNets 2 = .ok (.iload_n 1, 1) := by decide +kernel
theorem dX7_clearNets_3 : decode cX7_clearNets 3 = .ok (.iconst 3, 1) := by decide +kernel
theorem dX7_clearNets_4 : decode cX7_clearNets 4 = .ok (.if_icmp .ge 19, 3) := by decide +kernel
theorem dX7_clearNets_7 : decode cX7_clearNets 7 = .ok (.aload_n 0, 1) := by decide +kernel
theorem dX7_clearNets_8 : decode cX7_clearNets 8 = .ok (.getfield 20, 3) := by decide +kernel
theorem dX7_clearNets_11 : decode cX7_clearNets 11 = .ok (.iload_n 1, 1) := by decide +kernel
theorem dX7_clearNets_12 : decode cX7_clearNets 12 = .ok (.aaload, 1) := by decide +kernel
theorem dX7_clearNets_13 : decode cX7_clearNets 13 = .ok (.iconst 0, 1) := by decide +kernel
theorem dX7_clearNets_14 : decode cX7_clearNets 14 = .ok (.putfield 33, 3) := by decide +kernel
theorem dX7_clearNets_17 : decode cX7_clearNets 17 = .ok (.iinc 1 1, 3) := by decide +kernel
theorem dX7_clearNets_20 : decode cX7_clearNets 20 = .ok (.goto (-18), 3) := by decide +kernel
theorem dX7_clearNets_23 : decode cX7_clearNets 23 = .ok (.aload_n 0, 1) := by decide +kernel
theorem dX7_clearNets_24 : decode cX7_clearNets 24 = .ok (.iconst 0, 1) := by decide +kernel
theorem dX7_clearNets_25 : decode cX7_clearNets 25 = .ok (.putfield 29, 3) := by decide +kernel
theorem dX7_clearNets_28 : decode cX7_clearNets 28 = .ok (.return_, 1) := by decide +kernel
theorem dX7_init_0 : decode cX7_init 0 = .ok (.aload_n 0, 1) := by decide +kernel
theorem dX7_init_1 : decode cX7_init 1 = .ok (.invokespecial 3, 3) := by decide +kernel
theorem dX7_init_4 : decode cX7_init 4 = .ok (.aload_n 0, 1) := by decide +kernel
theorem dX7_init_5 : decode cX7_init 5 = .ok (.new 9, 3) := by decide +kernel
theorem dX7_init_8 : decode cX7_init 8 = .ok (.dup, 1) := by decide +kernel
theorem dX7_init_9 : decode cX7_init 9 = .ok (.invokespecial 11, 3) := by decide +kernel
theorem dX7_init_12 : decode cX7_init 12 = .ok (.putfield 12, 3) := by decide +kernel
theorem dX7_init_15 : decode cX7_init 15 = .ok (.aload_n 0, 1) := by decide +kernel
theorem dX7_init_16 : decode cX7_init 16 = .ok (.iconst 3, 1) := by decide +kernel
theorem dX7_init_17 : decode cX7_init 17 = .ok (.anewarray 18, 3) := by decide +kernel
theorem dX7_init_20 : decode cX7_init 20 = .ok (.putfield 20, 3) := by decide +kernel
theorem dX7_init_23 : decode cX7_init 23 = .ok (.aload_n 0, 1) := by decide +kernel
theorem dX7_init_24 : decode cX7_init 24 = .ok (.new 18, 3) := by decide +kernel
theorem dX7_init_27 : decode cX7_init 27 = .ok (.dup, 1) := by decide +kernel
theorem dX7_init_28 : decode cX7_init 28 = .ok (.invokespecial 24, 3) := by decide +kernel
theorem dX7_init_31 : decode cX7_init 31 = .ok (.putfield 25, 3) := by decide +kernel
theorem dX7_init_34 : decode cX7_init 34 = .ok (.aload_n 0, 1) := by decide +kernel
theorem dX7_init_35 : decode cX7_init 35 = .ok (.iconst 0, 1) := by decide +kernel
theorem dX7_init_36 : decode cX7_init 36 = .ok (.putfield 29, 3) := by decide +kernel
theorem dX7_init_39 : decode cX7_init 39 = .ok (.iconst 0, 1) := by decide +kernel
theorem dX7_init_40 : decode cX7_init 40 = .ok (.istore_n 1, 1) := by decide +kernel
theorem dX7_init_41 : decode cX7_init 41 = .ok (.iload_n 1, 1) := by decide +kernel
theorem dX7_init_42 : decode cX7_init 42 = .ok (.iconst 3, 1) := by decide +kernel
theorem dX7_init_43 : decode cX7_init 43 = .ok (.if_icmp .ge 22, 3) := by decide +kernel
theorem dX7_init_46 : decode cX7_init 46 = .ok (.aload_n 0, 1) := by decide +kernel
theorem dX7_init_47 : decode cX7_init 47 = .ok (.getfield 20, 3) := by decide +kernel
theorem dX7_init_50 : decode cX7_init 50 = .ok (.iload_n 1, 1) := by decide +kernel
theorem dX7_init_51 : decode cX7_init 51 = .ok (.new 18, 3) := by decide +kernel
theorem dX7_init_54 : decode cX7_init 54 = .ok (.dup, 1) := by decide +kernel
theorem dX7_init_55 : decode cX7_init 55 = .ok (.invokespecial 24, 3) := by decide +kernel
theorem dX7_init_58 : decode cX7_init 58 = .ok (.aastore, 1) := by decide +kernel
theorem dX7_init_59 : decode cX7_init 59 = .ok (.iinc 1 1, 3) := by decide +kernel
theorem dX7_init_62 : decode cX7_init 62 = .ok (.goto (-21), 3) := by decide +kernel
theorem dX7_init_65 : decode cX7_init 65 = .ok (.return_, 1) := by decide +kernel
theorem dX8_become_0 : decode cX8_become 0 = .ok (.aload_n 0, 1) := by decide +kernel
theorem dX8_become_1 : decode cX8_become 1 = .ok (.aload_n 1, 1) := by decide +kernel
theorem dX8_become_2 : decode cX8_become 2 = .ok (.getfield 9, 3) := by decide +kernel
theorem dX8_become_5 : decode cX8_become 5 = .ok (.putfield 9, 3) := by decide +kernel
theorem dX8_become_8 : decode cX8_become 8 = .ok (.iconst 0, 1) := by decide +kernel
theorem dX8_become_9 : decode cX8_become 9 = .ok (.istore_n 2, 1) := by decide +kernel
theorem dX8_become_10 : decode cX8_become 10 = .ok (.iload_n 2, 1) := by decide +kernel
theorem dX8_become_11 : decode cX8_become 11 = .ok (.iconst 4, 1) := by decide +kernel
theorem dX8_become_12 : decode cX8_become 12 = .ok (.if_icmp .ge 21, 3) := by decide +kernel
theorem dX8_become_15 : decode cX8_become 15 = .ok (.aload_n 0, 1) := by decide +kernel
theorem dX8_become_16 : decode cX8_become 16 = .ok (.getfield 15, 3) := by decide +kernel
theorem dX8_become_19 : decode cX8_become 19 = .ok (.iload_n 2, 1) := by decide +kernel
theorem dX8_become_20 : decode cX8_become 20 = .ok (.aload_n 1, 1) := by decide +kernel
theorem dX8_become_21 : decode cX8_become 21 = .ok (.getfield 15, 3) := by decide +kernel
theorem dX8_become_24 : decode cX8_become 24 = .ok (.iload_n 2, 1) := by decide +kernel
theorem dX8_become_25 : decode cX8_become 25 = .ok (.iaload, 1) := by decide +kernel
theorem dX8_become_26 : decode cX8_become 26 = .ok (.iastore, 1) := by decide +kernel
theorem dX8_become_27 : decode cX8_become 27 = .ok (.iinc 2 1, 3) := by decide +kernel
theorem dX8_become_30 : decode cX8_become 30 = .ok (.goto (-20), 3) := by decide +kernel
theorem dX8_become_33 : decode cX8_become 33 = .ok (.aload_n 0, 1) := by decide +kernel
theorem dX8_become_34 : decode cX8_become 34 = .ok (.aload_n 1, 1) := by decide +kernel
theorem dX8_become_35 : decode cX8_become 35 = .ok (.getfield 19, 3) := by decide +kernel
theorem dX8_become_38 : decode cX8_become 38 = .ok (.putfield 19, 3) := by decide +kernel
theorem dX8_become_41 : decode cX8_become 41 = .ok (.return_, 1) := by decide +kernel
theorem dX8_bit_0 : decode cX8_bit 0 = .ok (.lconst 1, 1) := by decide +kernel
theorem dX8_bit_1 : decode cX8_bit 1 = .ok (.bipush 16, 2) := by decide +kernel
theorem dX8_bit_3 : decode cX8_bit 3 = .ok (.iload_n 0, 1) := by decide +kernel
theorem dX8_bit_4 : decode cX8_bit 4 = .ok (.imul, 1) := by decide +kernel
theorem dX8_bit_5 : decode cX8_bit 5 = .ok (.iconst 4, 1) := by decide +kernel
theorem dX8_bit_6 : decode cX8_bit 6 = .ok (.iload_n 1, 1) := by decide +kernel
theorem dX8_bit_7 : decode cX8_bit 7 = .ok (.imul, 1) := by decide +kernel
theorem dX8_bit_8 : decode cX8_bit 8 = .ok (.iadd, 1) := by decide +kernel
theorem dX8_bit_9 : decode cX8_bit 9 = .ok (.iload_n 2, 1) := by decide +kernel
theorem dX8_bit_10 : decode cX8_bit 10 = .ok (.iadd, 1) := by decide +kernel
theorem dX8_bit_11 : decode cX8_bit 11 = .ok (.lshl, 1) := by decide +kernel
theorem dX8_bit_12 : decode cX8_bit 12 = .ok (.lreturn, 1) := by decide +kernel
theorem dX8_couple_0 : decode cX8_couple 0 = .ok (.aload_n 0, 1) := by decide +kernel
theorem dX8_couple_1 : decode cX8_couple 1 = .ok (.iload_n 1, 1) := by decide +kernel
theorem dX8_couple_2 : decode cX8_couple 2 = .ok (.invokevirtual 30, 3) := by decide +kernel
theorem dX8_couple_5 : decode cX8_couple 5 = .ok (.aload_n 0, 1) := by decide +kernel
theorem dX8_couple_6 : decode cX8_couple 6 = .ok (.iload_n 2, 1) := by decide +kernel
theorem dX8_couple_7 : decode cX8_couple 7 = .ok (.invokevirtual 30, 3) := by decide +kernel
theorem dX8_couple_10 : decode cX8_couple 10 = .ok (.aload_n 0, 1) := by decide +kernel
theorem dX8_couple_11 : decode cX8_couple 11 = .ok (.getfield 15, 3) := by decide +kernel
theorem dX8_couple_14 : decode cX8_couple 14 = .ok (.iload_n 1, 1) := by decide +kernel
theorem dX8_couple_15 : decode cX8_couple 15 = .ok (.iload_n 2, 1) := by decide +kernel
theorem dX8_couple_16 : decode cX8_couple 16 = .ok (.iastore, 1) := by decide +kernel
theorem dX8_couple_17 : decode cX8_couple 17 = .ok (.aload_n 0, 1) := by decide +kernel
theorem dX8_couple_18 : decode cX8_couple 18 = .ok (.getfield 15, 3) := by decide +kernel
theorem dX8_couple_21 : decode cX8_couple 21 = .ok (.iload_n 2, 1) := by decide +kernel
theorem dX8_couple_22 : decode cX8_couple 22 = .ok (.iload_n 1, 1) := by decide +kernel
theorem dX8_couple_23 : decode cX8_couple 23 = .ok (.iastore, 1) := by decide +kernel
theorem dX8_couple_24 : decode cX8_couple 24 = .ok (.aload_n 0, 1) := by decide +kernel
theorem dX8_couple_25 : decode cX8_couple 25 = .ok (.invokevirtual 27, 3) := by decide +kernel
theorem dX8_couple_28 : decode cX8_couple 28 = .ok (.return_, 1) := by decide +kernel
theorem dX8_coupled_0 : decode cX8_coupled 0 = .ok (.iconst 0, 1) := by decide +kernel
theorem dX8_coupled_1 : decode cX8_coupled 1 = .ok (.istore_n 1, 1) := by decide +kernel
theorem dX8_coupled_2 : decode cX8_coupled 2 = .ok (.iconst 0, 1) := by decide +kernel
theorem dX8_coupled_3 : decode cX8_coupled 3 = .ok (.istore_n 2, 1) := by decide +kernel
theorem dX8_coupled_4 : decode cX8_coupled 4 = .ok (.iload_n 2, 1) := by decide +kernel
theorem dX8_coupled_5 : decode cX8_coupled 5 = .ok (.aload_n 0, 1) := by decide +kernel
theorem dX8_coupled_6 : decode cX8_coupled 6 = .ok (.getfield 9, 3) := by decide +kernel
theorem dX8_coupled_9 : decode cX8_coupled 9 = .ok (.if_icmp .ge 22, 3) := by decide +kernel
theorem dX8_coupled_12 : decode cX8_coupled 12 = .ok (.aload_n 0, 1) := by decide +kernel
theorem dX8_coupled_13 : decode cX8_coupled 13 = .ok (.getfield 15, 3) := by decide +kernel
theorem dX8_coupled_16 : decode cX8_coupled 16 = .ok (.iload_n 2, 1) := by decide +kernel
theorem dX8_coupled_17 : decode cX8_coupled 17 = .ok (.iaload, 1) := by decide +kernel
theorem dX8_coupled_18 : decode cX8_coupled 18 = .ok (.iload_n 2, 1) := by decide +kernel
theorem dX8_coupled_19 : decode cX8_coupled 19 = .ok (.if_icmp .eq 6, 3) := by decide +kernel
theorem dX8_coupled_22 : decode cX8_coupled 22 = .ok (.iinc 1 1, 3) := by decide +kernel
theorem dX8_coupled_25 : decode cX8_coupled 25 = .ok (.iinc 2 1, 3) := by decide +kernel
theorem dX8_coupled_28 : decode cX8_coupled 28 = .ok (.goto (-24), 3) := by decide +kernel
theorem dX8_coupled_31 : decode cX8_coupled 31 = .ok (.iload_n 1, 1) := by decide +kernel
theorem dX8_coupled_32 : decode cX8_coupled 32 = .ok (.ireturn, 1) := by decide +kernel
theorem dX8_cycleFacts_0 : decode cX8_cycleFacts 0 = .ok (.iconst 0, 1) := by decide +kernel
theorem dX8_cycleFacts_1 : decode cX8_cycleFacts 1 = .ok (.istore_n 2, 1) := by decide +kernel
theorem dX8_cycleFacts_2 : decode cX8_cycleFacts 2 = .ok (.iconst 0, 1) := by decide +kernel
theorem dX8_cycleFacts_3 : decode cX8_cycleFacts 3 = .ok (.istore_n 3, 1) := by decide +kernel
theorem dX8_cycleFacts_4 : decode cX8_cycleFacts 4 = .ok (.iconst 0, 1) := by decide +kernel
theorem dX8_cycleFacts_5 : decode cX8_cycleFacts 5 = .ok (.istore 4, 2) := by decide +kernel
theorem dX8_cycleFacts_7 : decode cX8_cycleFacts 7 = .ok (.iconst 1, 1) := by decide +kernel
theorem dX8_cycleFacts_8 : decode cX8_cycleFacts 8 = .ok (.istore 5, 2) := by decide +kernel
theorem dX8_cycleFacts_10 : decode cX8_cycleFacts 10 = .ok (.iload 5, 2) := by decide +kernel
theorem dX8_cycleFacts_12 : decode cX8_cycleFacts 12 = .ok (.aload_n 0, 1) := by decide +kernel
theorem dX8_cycleFacts_13 : decode cX8_cycleFacts 13 = .ok (.getfield 9, 3) := by decide +kernel
theorem dX8_cycleFacts_16 : decode cX8_cycleFacts 16 = .ok (.if_icmp .ge 97, 3) := by decide +kernel
theorem dX8_cycleFacts_19 : decode cX8_cycleFacts 19 = .ok (.iconst 1, 1) := by decide +kernel
theorem dX8_cycleFacts_20 : decode cX8_cycleFacts 20 = .ok (.istore 6, 2) := by decide +kernel
theorem dX8_cycleFacts_22 : decode cX8_cycleFacts 22 = .ok (.iload 6, 2) := by decide +kernel
theorem dX8_cycleFacts_24 : decode cX8_cycleFacts 24 = .ok (.aload_n 0, 1) := by decide +kernel
theorem dX8_cycleFacts_25 : decode cX8_cycleFacts 25 = .ok (.getfield 9, 3) := by decide +kernel
theorem dX8_cycleFacts_28 : decode cX8_cycleFacts 28 = .ok (.if_icmp .ge 79, 3) := by decide +kernel
theorem dX8_cycleFacts_31 : decode cX8_cycleFacts 31 = .ok (.iconst 1, 1) := by decide +kernel
theorem dX8_cycleFacts_32 : decode cX8_cycleFacts 32 = .ok (.istore 7, 2) := by decide +kernel
theorem dX8_cycleFacts_34 : decode cX8_cycleFacts 34 = .ok (.iload 7, 2) := by decide +kernel
theorem dX8_cycleFacts_36 : decode cX8_cycleFacts 36 = .ok (.aload_n 0, 1) := by decide +kernel
theorem dX8_cycleFacts_37 : decode cX8_cycleFacts 37 = .ok (.getfield 9, 3) := by decide +kernel
theorem dX8_cycleFacts_40 : decode cX8_cycleFacts 40 = .ok (.if_icmp .ge 61, 3) := by decide +kernel
theorem dX8_cycleFacts_43 : decode cX8_cycleFacts 43 = .ok (.aload_n 0, 1) := by decide +kernel
theorem dX8_cycleFacts_44 : decode cX8_cycleFacts 44 = .ok (.iload 5, 2) := by decide +kernel
theorem dX8_cycleFacts_46 : decode cX8_cycleFacts 46 = .ok (.iload 6, 2) := by decide +kernel
theorem dX8_cycleFacts_48 : decode cX8_cycleFacts 48 = .ok (.iload 7, 2) := by decide +kernel
theorem dX8_cycleFacts_50 : decode cX8_cycleFacts 50 = .ok (.invokevirtual 68, 3) := by decide +kernel
theorem dX8_cycleFacts_53 : decode cX8_cycleFacts 53 = .ok (.ifCond .eq 42, 3) := by decide +kernel
theorem dX8_cycleFacts_56 : decode cX8_cycleFacts 56 = .ok (.iinc 3 1, 3) := by decide +kernel
theorem dX8_cycleFacts_59 : decode cX8_cycleFacts 59 = .ok (.aload_n 0, 1) := by decide +kernel
theorem dX8_cycleFacts_60 : decode cX8_cycleFacts 60 = .ok (.iload 5, 2) := by decide +kernel
theorem dX8_cycleFacts_62 : decode cX8_cycleFacts 62 = .ok (.iload 6, 2) := by decide +kernel
theorem dX8_cycleFacts_64 : decode cX8_cycleFacts 64 = .ok (.iload 7, 2) := by decide +kernel
theorem dX8_cycleFacts_66 : decode cX8_cycleFacts 66 = .ok (.invokevirtual 71, 3) := by decide +kernel
theorem dX8_cycleFacts_69 : decode cX8_cycleFacts 69 = .ok (.ifCond .eq 26, 3) := by decide +kernel
theorem dX8_cycleFacts_72 : decode cX8_cycleFacts 72 = .ok (.iinc 2 1, 3) := by decide +kernel
theorem dX8_cycleFacts_75 : decode cX8_cycleFacts 75 = .ok (.iload 4, 2) := by decide +kernel
theorem dX8_cycleFacts_77 : decode cX8_cycleFacts 77 = .ok (.aload_n 0, 1) := by decide +kernel
theorem dX8_cycleFacts_78 : decode cX8_cycleFacts 78 = .ok (.iload 5, 2) := by decide +kernel
theorem dX8_cycleFacts_80 : decode cX8_cycleFacts 80 = .ok (.iload 6, 2) := by decide +kernel
theorem dX8_cycleFacts_82 : decode cX8_cycleFacts 82 = .ok (.iload 7, 2) := by decide +kernel
theorem dX8_cycleFacts_84 : decode cX8_cycleFacts 84 = .ok (.invokevirtual 37, 3) := by decide +kernel
theorem dX8_cycleFacts_87 : decode cX8_cycleFacts 87 = .ok (.invokestatic 42, 3) := by decide +kernel
theorem dX8_cycleFacts_90 : decode cX8_cycleFacts 90 = .ok (.invokestatic 74, 3) := by decide +kernel
theorem dX8_cycleFacts_93 : decode cX8_cycleFacts 93 = .ok (.istore 4, 2) := by decide +kernel
theorem dX8_cycleFacts_95 : decode cX8_cycleFacts 95 = .ok (.iinc 7 1, 3) := by decide +kernel
theorem dX8_cycleFacts_98 : decode cX8_cycleFacts 98 = .ok (.goto (-64), 3) := by decide +kernel
theorem dX8_cycleFacts_101 : decode cX8_cycleFacts 101 = .ok (.iinc 6 1, 3) := by decide +kernel
theorem dX8_cycleFacts_104 : decode cX8_cycleFacts 104 = .ok (.goto (-82), 3) := by decide +kernel
theorem dX8_cycleFacts_107 : decode cX8_cycleFacts 107 = .ok (.iinc 5 1, 3) := by decide +kernel
theorem dX8_cycleFacts_110 : decode cX8_cycleFacts 110 = .ok (.goto (-100), 3) := by decide +kernel
theorem dX8_cycleFacts_113 : decode cX8_cycleFacts 113 = .ok (.iload_n 1, 1) := by decide +kernel
theorem dX8_cycleFacts_114 : decode cX8_cycleFacts 114 = .ok (.ifCond .ne 5, 3) := by decide +kernel
theorem dX8_cycleFacts_117 : decode cX8_cycleFacts 117 = .ok (.iload_n 2, 1) := by decide +kernel
theorem dX8_cycleFacts_118 : decode cX8_cycleFacts 118 = .ok (.ireturn, 1) := by decide +kernel
theorem dX8_cycleFacts_119 : decode cX8_cycleFacts 119 = .ok (.iload_n 1, 1) := by decide +kernel
theorem dX8_cycleFacts_120 : decode cX8_cycleFacts 120 = .ok (.iconst 1, 1) := by decide +kernel
theorem dX8_cycleFacts_121 : decode cX8_cycleFacts 121 = .ok (.if_icmp .ne 7, 3) := by decide +kernel
theorem dX8_cycleFacts_124 : decode cX8_cycleFacts 124 = .ok (.iload_n 3, 1) := by decide +kernel
theorem dX8_cycleFacts_125 : decode cX8_cycleFacts 125 = .ok (.goto 5, 3) := by decide +kernel
theorem dX8_cycleFacts_128 : decode cX8_cycleFacts 128 = .ok (.iload 4, 2) := by decide +kernel
theorem dX8_cycleFacts_130 : decode cX8_cycleFacts 130 = .ok (.ireturn, 1) := by decide +kernel
theorem dX8_free_0 : decode cX8_free 0 = .ok (.aload_n 0, 1) := by decide +kernel
theorem dX8_free_1 : decode cX8_free 1 = .ok (.getfield 15, 3) := by decide +kernel
theorem dX8_free_4 : decode cX8_free 4 = .ok (.iload_n 1, 1) := by decide +kernel
theorem dX8_free_5 : decode cX8_free 5 = .ok (.iaload, 1) := by decide +kernel
theorem dX8_free_6 : decode cX8_free 6 = .ok (.istore_n 2, 1) := by decide +kernel
theorem dX8_free_7 : decode cX8_free 7 = .ok (.aload_n 0, 1) := by decide +kernel
theorem dX8_free_8 : decode cX8_free 8 = .ok (.getfield 15, 3) := by decide +kernel
theorem dX8_free_11 : decode cX8_free 11 = .ok (.iload_n 2, 1) := by decide +kernel
theorem dX8_free_12 : decode cX8_free 12 = .ok (.iload_n 2, 1) := by decide +kernel
theorem dX8_free_13 : decode cX8_free 13 = .ok (.iastore, 1) := by decide +kernel
theorem dX8_free_14 : decode cX8_free 14 = .ok (.aload_n 0, 1) := by decide +kernel
theorem dX8_free_15 : decode cX8_free 15 = .ok (.getfield 15, 3) := by decide +kernel
theorem dX8_free_18 : decode cX8_free 18 = .ok (.iload_n 1, 1) := by decide +kernel
theorem dX8_free_19 : decode cX8_free 19 = .ok (.iload_n 1, 1) := by decide +kernel
theorem dX8_free_20 : decode cX8_free 20 = .ok (.iastore, 1) := by decide +kernel
theorem dX8_free_21 : decode cX8_free 21 = .ok (.return_, 1) := by decide +kernel
theorem dX8_has_0 : decode cX8_has 0 = .ok (.aload_n 0, 1) := by decide +kernel
theorem dX8_has_1 : decode cX8_has 1 = .ok (.getfield 19, 3) := by decide +kernel
theorem dX8_has_4 : decode cX8_has 4 = .ok (.bipush 16, 2) := by decide +kernel
theorem dX8_has_6 : decode cX8_has 6 = .ok (.iload_n 1, 1) := by decide +kernel
theorem dX8_has_7 : decode cX8_has 7 = .ok (.imul, 1) := by decide +kernel
theorem dX8_has_8 : decode cX8_has 8 = .ok (.iconst 4, 1) := by decide +kernel
theorem dX8_has_9 : decode cX8_has 9 = .ok (.iload_n 2, 1) := by decide +kernel
theorem dX8_has_10 : decode cX8_has 10 = .ok (.imul, 1) := by decide +kernel
theorem dX8_has_11 : decode cX8_has 11 = .ok (.iadd, 1) := by decide +kernel
theorem dX8_has_12 : decode cX8_has 12 = .ok (.iload_n 3, 1) := by decide +kernel
theorem dX8_has_13 : decode cX8_has 13 = .ok (.iadd, 1) := by decide +kernel
theorem dX8_has_14 : decode cX8_has 14 = .ok (.lushr, 1) := by decide +kernel
theorem dX8_has_15 : decode cX8_has 15 = .ok (.lconst 1, 1) := by decide +kernel
theorem dX8_has_16 : decode cX8_has 16 = .ok (.land, 1) := by decide +kernel
theorem dX8_has_17 : decode cX8_has 17 = .ok (.lconst 1, 1) := by decide +kernel
theorem dX8_has_18 : decode cX8_has 18 = .ok (.lcmp, 1) := by decide +kernel
theorem dX8_has_19 : decode cX8_has 19 = .ok (.ifCond .ne 7, 3) := by decide +kernel
theorem dX8_has_22 : decode cX8_has 22 = .ok (.iconst 1, 1) := by decide +kernel
theorem dX8_has_23 : decode cX8_has 23 = .ok (.goto 4, 3) := by decide +kernel
theorem dX8_has_26 : decode cX8_has 26 = .ok (.iconst 0, 1) := by decide +kernel
theorem dX8_has_27 : decode cX8_has 27 = .ok (.ireturn, 1) := by decide +kernel
theorem dX8_init_0 : decode cX8_init 0 = .ok (.aload_n 0, 1) := by decide +kernel
theorem dX8_init_1 : decode cX8_init 1 = .ok (.invokespecial 3, 3) := by decide +kernel
theorem dX8_init_4 : decode cX8_init 4 = .ok (.aload_n 0, 1) := by decide +kernel
theorem dX8_init_5 : decode cX8_init 5 = .ok (.iconst 1, 1) := by decide +kernel
theorem dX8_init_6 : decode cX8_init 6 = .ok (.putfield 9, 3) := by decide +kernel
theorem dX8_init_9 : decode cX8_init 9 = .ok (.aload_n 0, 1) := by decide +kernel
theorem dX8_init_10 : decode cX8_init 10 = .ok (.iconst 4, 1) := by decide +kernel
theorem dX8_init_11 : decode cX8_init 11 = .ok (.newarray .int, 2) := by decide +kernel
theorem dX8_init_13 : decode cX8_init 13 = .ok (.putfield 15, 3) := by decide +kernel
theorem dX8_init_16 : decode cX8_init 16 = .ok (.aload_n 0, 1) := by decide +kernel
theorem dX8_init_17 : decode cX8_init 17 = .ok (.lconst 0, 1) := by decide +kernel
theorem dX8_init_18 : decode cX8_init 18 = .ok (.putfield 19, 3) := by decide +kernel
theorem dX8_init_21 : decode cX8_init 21 = .ok (.aload_n 0, 1) := by decide +kernel
theorem dX8_init_22 : decode cX8_init 22 = .ok (.iconst 1, 1) := by decide +kernel
theorem dX8_init_23 : decode cX8_init 23 = .ok (.invokevirtual 23, 3) := by decide +kernel
theorem dX8_init_26 : decode cX8_init 26 = .ok (.return_, 1) := by decide +kernel
