theorem dX12_begin_0 : decode cX12_begin 0 = .ok (.iload_n 1, 1) := by decide +kernel
theorem dX12_begin_1 : decode cX12_begin 1 = .ok (.invokestatic 145, 3) := by decide +kernel
theorem dX12_begin_4 : decode cX12_begin 4 = .ok (.ifCond .ne 5, 3) := by decide +kernel
theorem dX12_begin_7 : decode cX12_begin 7 = .ok (.iconst (-1), 1) := by decide +kernel
theorem dX12_begin_8 : decode cX12_begin 8 = .ok (.ireturn, 1) := by decide +kernel
theorem dX12_begin_9 : decode cX12_begin 9 = .ok (.aload_n 0, 1) := by decide +kernel
theorem dX12_begin_10 : decode cX12_begin 10 = .ok (.iload_n 1, 1) := by decide +kernel
theorem dX12_begin_11 : decode cX12_begin 11 = .ok (.invokevirtual 220, 3) := by decide +kernel
theorem dX12_begin_14 : decode cX12_begin 14 = .ok (.ifCond .ne 6, 3) := by decide +kernel
theorem dX12_begin_17 : decode cX12_begin 17 = .ok (.bipush (-3), 2) := by decide +kernel
theorem dX12_begin_19 : decode cX12_begin 19 = .ok (.ireturn, 1) := by decide +kernel
theorem dX12_begin_20 : decode cX12_begin 20 = .ok (.aload_n 0, 1) := by decide +kernel
theorem dX12_begin_21 : decode cX12_begin 21 = .ok (.iload_n 1, 1) := by decide +kernel
theorem dX12_begin_22 : decode cX12_begin 22 = .ok (.iconst 4, 1) := by decide +kernel
theorem dX12_begin_23 : decode cX12_begin 23 = .ok (.invokevirtual 161, 3) := by decide +kernel
theorem dX12_begin_26 : decode cX12_begin 26 = .ok (.aload_n 0, 1) := by decide +kernel
theorem dX12_begin_27 : decode cX12_begin 27 = .ok (.iconst 1, 1) := by decide +kernel
theorem dX12_begin_28 : decode cX12_begin 28 = .ok (.putfield 78, 3) := by decide +kernel
theorem dX12_begin_31 : decode cX12_begin 31 = .ok (.aload_n 0, 1) := by decide +kernel
theorem dX12_begin_32 : decode cX12_begin 32 = .ok (.iconst 0, 1) := by decide +kernel
theorem dX12_begin_33 : decode cX12_begin 33 = .ok (.putfield 226, 3) := by decide +kernel
theorem dX12_begin_36 : decode cX12_begin 36 = .ok (.aload_n 0, 1) := by decide +kernel
theorem dX12_begin_37 : decode cX12_begin 37 = .ok (.iconst 0, 1) := by decide +kernel
theorem dX12_begin_38 : decode cX12_begin 38 = .ok (.putfield 229, 3) := by decide +kernel
theorem dX12_begin_41 : decode cX12_begin 41 = .ok (.aload_n 0, 1) := by decide +kernel
theorem dX12_begin_42 : decode cX12_begin 42 = .ok (.iconst 4, 1) := by decide +kernel
theorem dX12_begin_43 : decode cX12_begin 43 = .ok (.iconst (-1), 1) := by decide +kernel
theorem dX12_begin_44 : decode cX12_begin 44 = .ok (.invokevirtual 171, 3) := by decide +kernel
theorem dX12_begin_47 : decode cX12_begin 47 = .ok (.istore_n 2, 1) := by decide +kernel
theorem dX12_begin_48 : decode cX12_begin 48 = .ok (.iload_n 2, 1) := by decide +kernel
theorem dX12_begin_49 : decode cX12_begin 49 = .ok (.iconst (-1), 1) := by decide +kernel
theorem dX12_begin_50 : decode cX12_begin 50 = .ok (.if_icmp .eq 33, 3) := by decide +kernel
theorem dX12_begin_53 : decode cX12_begin 53 = .ok (.aload_n 0, 1) := by decide +kernel
theorem dX12_begin_54 : decode cX12_begin 54 = .ok (.getfield 29, 3) := by decide +kernel
theorem dX12_begin_57 : decode cX12_begin 57 = .ok (.aload_n 0, 1) := by decide +kernel
theorem dX12_begin_58 : decode cX12_begin 58 = .ok (.getfield 226, 3) := by decide +kernel
theorem dX12_begin_61 : decode cX12_begin 61 = .ok (.iload_n 2, 1) := by decide +kernel
theorem dX12_begin_62 : decode cX12_begin 62 = .ok (.iastore, 1) := by decide +kernel
theorem dX12_begin_63 : decode cX12_begin 63 = .ok (.aload_n 0, 1) := by decide +kernel
theorem dX12_begin_64 : decode cX12_begin 64 = .ok (.dup, 1) := by decide +kernel
theorem dX12_begin_65 : decode cX12_begin 65 = .ok (.getfield 226, 3) := by decide +kernel
theorem dX12_begin_68 : decode cX12_begin 68 = .ok (.iconst 1, 1) := by decide +kernel
theorem dX12_begin_69 : decode cX12_begin 69 = .ok (.iadd, 1) := by decide +kernel
theorem dX12_begin_70 : decode cX12_begin 70 = .ok (.putfield 226, 3) := by decide +kernel
theorem dX12_begin_73 : decode cX12_begin 73 = .ok (.aload_n 0, 1) := by decide +kernel
theorem dX12_begin_74 : decode cX12_begin 74 = .ok (.iconst 4, 1) := by decide +kernel
theorem dX12_begin_75 : decode cX12_begin 75 = .ok (.iload_n 2, 1) := by decide +kernel
theorem dX12_begin_76 : decode cX12_begin 76 = .ok (.invokevirtual 171, 3) := by decide +kernel
theorem dX12_begin_79 : decode cX12_begin 79 = .ok (.istore_n 2, 1) := by decide +kernel
theorem dX12_begin_80 : decode cX12_begin 80 = .ok (.goto (-32), 3) := by decide +kernel
theorem dX12_begin_83 : decode cX12_begin 83 = .ok (.aload_n 0, 1) := by decide +kernel
theorem dX12_begin_84 : decode cX12_begin 84 = .ok (.getfield 226, 3) := by decide +kernel
theorem dX12_begin_87 : decode cX12_begin 87 = .ok (.ireturn, 1) := by decide +kernel
theorem dX12_board_0 : decode cX12_board 0 = .ok (.aload_n 0, 1) := by decide +kernel
theorem dX12_board_1 : decode cX12_board 1 = .ok (.getfield 78, 3) := by decide +kernel
theorem dX12_board_4 : decode cX12_board 4 = .ok (.ifCond .ne 6, 3) := by decide +kernel
theorem dX12_board_7 : decode cX12_board 7 = .ok (.bipush (-3), 2) := by decide +kernel
theorem dX12_board_9 : decode cX12_board 9 = .ok (.ireturn, 1) := by decide +kernel
theorem dX12_board_10 : decode cX12_board 10 = .ok (.iload_n 1, 1) := by decide +kernel
theorem dX12_board_11 : decode cX12_board 11 = .ok (.ifCond .ne 12, 3) := by decide +kernel
theorem dX12_board_14 : decode cX12_board 14 = .ok (.aload_n 0, 1) := by decide +kernel
theorem dX12_board_15 : decode cX12_board 15 = .ok (.getfield 23, 3) := by decide +kernel
theorem dX12_board_18 : decode cX12_board 18 = .ok (.iconst 4, 1) := by decide +kernel
theorem dX12_board_19 : decode cX12_board 19 = .ok (.iaload, 1) := by decide +kernel
theorem dX12_board_20 : decode cX12_board 20 = .ok (.goto 28, 3) := by decide +kernel
theorem dX12_board_23 : decode cX12_board 23 = .ok (.iload_n 1, 1) := by decide +kernel
theorem dX12_board_24 : decode cX12_board 24 = .ok (.iconst 1, 1) := by decide +kernel
theorem dX12_board_25 : decode cX12_board 25 = .ok (.if_icmp .ne 10, 3) := by decide +kernel
theorem dX12_board_28 : decode cX12_board 28 = .ok (.aload_n 0, 1) := by decide +kernel
theorem dX12_board_29 : decode cX12_board 29 = .ok (.getfield 226, 3) := by decide +kernel
theorem dX12_board_32 : decode cX12_board 32 = .ok (.goto 16, 3) := by decide +kernel
theorem dX12_board_35 : decode cX12_board 35 = .ok (.iload_n 1, 1) := by decide +kernel
theorem dX12_board_36 : decode cX12_board 36 = .ok (.iconst 2, 1) := by decide +kernel
theorem dX12_board_37 : decode cX12_board 37 = .ok (.if_icmp .ne 10, 3) := by decide +kernel
theorem dX12_board_40 : decode cX12_board 40 = .ok (.aload_n 0, 1) := by decide +kernel
theorem dX12_board_41 : decode cX12_board 41 = .ok (.getfield 229, 3) := by decide +kernel
theorem dX12_board_44 : decode cX12_board 44 = .ok (.goto 4, 3) := by decide +kernel
theorem dX12_board_47 : decode cX12_board 47 = .ok (.iconst (-1), 1) := by decide +kernel
theorem dX12_board_48 : decode cX12_board 48 = .ok (.ireturn, 1) := by decide +kernel
theorem dX12_broken_0 : decode cX12_broken 0 = .ok (.iload_n 1, 1) := by decide +kernel
theorem dX12_broken_1 : decode cX12_broken 1 = .ok (.i2l, 1) := by decide +kernel
theorem dX12_broken_2 : decode cX12_broken 2 = .ok (.lconst 0, 1) := by decide +kernel
theorem dX12_broken_3 : decode cX12_broken 3 = .ok (.ldc2_w 125, 3) := by decide +kernel
theorem dX12_broken_6 : decode cX12_broken 6 = .ok (.invokestatic 70, 3) := by decide +kernel
theorem dX12_broken_9 : decode cX12_broken 9 = .ok (.ifCond .ne 5, 3) := by decide +kernel
theorem dX12_broken_12 : decode cX12_broken 12 = .ok (.iconst (-1), 1) := by decide +kernel
theorem dX12_broken_13 : decode cX12_broken 13 = .ok (.ireturn, 1) := by decide +kernel
theorem dX12_broken_14 : decode cX12_broken 14 = .ok (.iconst 0, 1) := by decide +kernel
theorem dX12_broken_15 : decode cX12_broken 15 = .ok (.istore_n 2, 1) := by decide +kernel
theorem dX12_broken_16 : decode cX12_broken 16 = .ok (.bipush (-5), 2) := by decide +kernel
theorem dX12_broken_18 : decode cX12_broken 18 = .ok (.istore_n 3, 1) := by decide +kernel
theorem dX12_broken_19 : decode cX12_broken 19 = .ok (.iconst 0, 1) := by decide +kernel
theorem dX12_broken_20 : decode cX12_broken 20 = .ok (.istore 4, 2) := by decide +kernel
theorem dX12_broken_22 : decode cX12_broken 22 = .ok (.bipush (-5), 2) := by decide +kernel
theorem dX12_broken_24 : decode cX12_broken 24 = .ok (.istore 5, 2) := by decide +kernel
theorem dX12_broken_26 : decode cX12_broken 26 = .ok (.iconst 0, 1) := by decide +kernel
theorem dX12_broken_27 : decode cX12_broken 27 = .ok (.istore 6, 2) := by decide +kernel
theorem dX12_broken_29 : decode cX12_broken 29 = .ok (.iload 6, 2) := by decide +kernel
theorem dX12_broken_31 : decode cX12_broken 31 = .ok (.aload_n 0, 1) := by decide +kernel
theorem dX12_broken_32 : decode cX12_broken 32 = .ok (.getfield 9, 3) := by decide +kernel
theorem dX12_broken_35 : decode cX12_broken 35 = .ok (.if_icmp .ge 146, 3) := by decide +kernel
theorem dX12_broken_38 : decode cX12_broken 38 = .ok (.iconst 0, 1) := by decide +kernel
theorem dX12_broken_39 : decode cX12_broken 39 = .ok (.istore 7, 2) := by decide +kernel
theorem dX12_broken_41 : decode cX12_broken 41 = .ok (.iload 7, 2) := by decide +kernel
theorem dX12_broken_43 : decode cX12_broken 43 = .ok (.aload_n 0, 1) := by decide +kernel
theorem dX12_broken_44 : decode cX12_broken 44 = .ok (.getfield 9, 3) := by decide +kernel
theorem dX12_broken_47 : decode cX12_broken 47 = .ok (.if_icmp .ge 128, 3) := by decide +kernel
theorem dX12_broken_50 : decode cX12_broken 50 = .ok (.aload_n 0, 1) := by decide +kernel
theorem dX12_broken_51 : decode cX12_broken 51 = .ok (.iconst 1, 1) := by decide +kernel
theorem dX12_broken_52 : decode cX12_broken 52 = .ok (.iload 6, 2) := by decide +kernel
theorem dX12_broken_54 : decode cX12_broken 54 = .ok (.ishl, 1) := by decide +kernel
theorem dX12_broken_55 : decode cX12_broken 55 = .ok (.iconst 1, 1) := by decide +kernel
theorem dX12_broken_56 : decode cX12_broken 56 = .ok (.iload 7, 2) := by decide +kernel
theorem dX12_broken_58 : decode cX12_broken 58 = .ok (.ishl, 1) := by decide +kernel
theorem dX12_broken_59 : decode cX12_broken 59 = .ok (.invokevirtual 109, 3) := by decide +kernel
theorem dX12_broken_62 : decode cX12_broken 62 = .ok (.istore 8, 2) := by decide +kernel
theorem dX12_broken_64 : decode cX12_broken 64 = .ok (.iload 8, 2) := by decide +kernel
theorem dX12_broken_66 : decode cX12_broken 66 = .ok (.ifCond .ne 26, 3) := by decide +kernel
theorem dX12_broken_69 : decode cX12_broken 69 = .ok (.iload 4, 2) := by decide +kernel
theorem dX12_broken_71 : decode cX12_broken 71 = .ok (.ifCond .ne 14, 3) := by decide +kernel
theorem dX12_broken_74 : decode cX12_broken 74 = .ok (.bipush 10, 2) := by decide +kernel
theorem dX12_broken_76 : decode cX12_broken 76 = .ok (.iload 6, 2) := by decide +kernel
theorem dX12_broken_78 : decode cX12_broken 78 = .ok (.imul, 1) := by decide +kernel
theorem dX12_broken_79 : decode cX12_broken 79 = .ok (.iload 7, 2) := by decide +kernel
theorem dX12_broken_81 : decode cX12_broken 81 = .ok (.iadd, 1) := by decide +kernel
theorem dX12_broken_82 : decode cX12_broken 82 = .ok (.goto 5, 3) := by decide +kernel
theorem dX12_broken_85 : decode cX12_broken 85 = .ok (.iload 5, 2) := by decide +kernel
theorem dX12_broken_87 : decode cX12_broken 87 = .ok (.istore 5, 2) := by decide +kernel
theorem dX12_broken_89 : decode cX12_broken 89 = .ok (.iinc 4 1, 3) := by decide +kernel
theorem dX12_broken_92 : decode cX12_broken 92 = .ok (.iconst 0, 1) := by decide +kernel
theorem dX12_broken_93 : decode cX12_broken 93 = .ok (.istore 9, 2) := by decide +kernel
theorem dX12_broken_95 : decode cX12_broken 95 = .ok (.iload 9, 2) := by decide +kernel
theorem dX12_broken_97 : decode cX12_broken 97 = .ok (.aload_n 0, 1) := by decide +kernel
theorem dX12_broken_98 : decode cX12_broken 98 = .ok (.getfield 9, 3) := by decide +kernel
theorem dX12_broken_101 : decode cX12_broken 101 = .ok (.if_icmp .ge 68, 3) := by decide +kernel
theorem dX12_broken_104 : decode cX12_broken 104 = .ok (.aload_n 0, 1) := by decide +kernel
theorem dX12_broken_105 : decode cX12_broken 105 = .ok (.iload 8, 2) := by decide +kernel
theorem dX12_broken_107 : decode cX12_broken 107 = .ok (.iconst 1, 1) := by decide +kernel
theorem dX12_broken_108 : decode cX12_broken 108 = .ok (.iload 9, 2) := by decide +kernel
theorem dX12_broken_110 : decode cX12_broken 110 = .ok (.ishl, 1) := by decide +kernel
theorem dX12_broken_111 : decode cX12_broken 111 = .ok (.invokevirtual 109, 3) := by decide +kernel
theorem dX12_broken_114 : decode cX12_broken 114 = .ok (.aload_n 0, 1) := by decide +kernel
theorem dX12_broken_115 : decode cX12_broken 115 = .ok (.iconst 1, 1) := by decide +kernel
theorem dX12_broken_116 : decode cX12_broken 116 = .ok (.iload 6, 2) := by decide +kernel
theorem dX12_broken_118 : decode cX12_broken 118 = .ok (.ishl, 1) := by decide +kernel
theorem dX12_broken_119 : decode cX12_broken 119 = .ok (.aload_n 0, 1) := by decide +kernel
theorem dX12_broken_120 : decode cX12_broken 120 = .ok (.iconst 1, 1) := by decide +kernel
theorem dX12_broken_121 : decode cX12_broken 121 = .ok (.iload 7, 2) := by decide +kernel
theorem dX12_broken_123 : decode cX12_broken 123 = .ok (.ishl, 1) := by decide +kernel
theorem dX12_broken_124 : decode cX12_broken 124 = .ok (.iconst 1, 1) := by decide +kernel
theorem dX12_broken_125 : decode cX12_broken 125 = .ok (.iload 9, 2) := by decide +kernel
theorem dX12_broken_127 : decode cX12_broken 127 = .ok (.ishl, 1) := by decide +kernel
theorem dX12_broken_128 : decode cX12_broken 128 = .ok (.invokevirtual 109, 3) := by decide +kernel
theorem dX12_broken_131 : decode cX12_broken 131 = .ok (.invokevirtual 109, 3) := by decide +kernel
theorem dX12_broken_134 : decode cX12_broken 134 = .ok (.if_icmp .eq 29, 3) := by decide +kernel
theorem dX12_broken_137 : decode cX12_broken 137 = .ok (.iload_n 2, 1) := by decide +kernel
theorem dX12_broken_138 : decode cX12_broken 138 = .ok (.ifCond .ne 20, 3) := by decide +kernel
theorem dX12_broken_141 : decode cX12_broken 141 = .ok (.bipush 100, 2) := by decide +kernel
theorem dX12_broken_143 : decode cX12_broken 143 = .ok (.iload 6, 2) := by decide +kernel
theorem dX12_broken_145 : decode cX12_broken 145 = .ok (.imul, 1) := by decide +kernel
theorem dX12_broken_146 : decode cX12_broken 146 = .ok (.bipush 10, 2) := by decide +kernel
theorem dX12_broken_148 : decode cX12_broken 148 = .ok (.iload 7, 2) := by decide +kernel
theorem dX12_broken_150 : decode cX12_broken 150 = .ok (.imul, 1) := by decide +kernel
theorem dX12_broken_151 : decode cX12_broken 151 = .ok (.iadd, 1) := by decide +kernel
theorem dX12_broken_152 : decode cX12_broken 152 = .ok (.iload 9, 2) := by decide +kernel
theorem dX12_broken_154 : decode cX12_broken 154 = .ok (.iadd, 1) := by decide +kernel
theorem dX12_broken_155 : decode cX12_broken 155 = .ok (.goto 4, 3) := by decide +kernel
theorem dX12_broken_158 : decode cX12_broken 158 = .ok (.iload_n 3, 1) := by decide +kernel
theorem dX12_broken_159 : decode cX12_broken 159 = .ok (.istore_n 3, 1) := by decide +kernel
theorem dX12_broken_160 : decode cX12_broken 160 = .ok (.iinc 2 1, 3) := by decide +kernel
theorem dX12_broken_163 : decode cX12_broken 163 = .ok (.iinc 9 1, 3) := by decide +kernel
theorem dX12_broken_166 : decode cX12_broken 166 = .ok (.goto (-71), 3) := by decide +kernel
theorem dX12_broken_169 : decode cX12_broken 169 = .ok (.iinc 7 1, 3) := by decide +kernel
theorem dX12_broken_172 : decode cX12_broken 172 = .ok (.goto (-131), 3) := by decide +kernel
theorem dX12_broken_175 : decode cX12_broken 175 = .ok (.iinc 6 1, 3) := by decide +kernel
theorem dX12_broken_178 : decode cX12_broken 178 = .ok (.goto (-149), 3) := by decide +kernel
theorem dX12_broken_181 : decode cX12_broken 181 = .ok (.iload_n 1, 1) := by decide +kernel
theorem dX12_broken_182 : decode cX12_broken 182 = .ok (.ifCond .ne 7, 3) := by decide +kernel
theorem dX12_broken_185 : decode cX12_broken 185 = .ok (.iload_n 2, 1) := by decide +kernel
theorem dX12_broken_186 : decode cX12_broken 186 = .ok (.goto 24, 3) := by decide +kernel
theorem dX12_broken_189 : decode cX12_broken 189 = .ok (.iload_n 1, 1) := by decide +kernel
theorem dX12_broken_190 : decode cX12_broken 190 = .ok (.iconst 1, 1) := by decide +kernel
theorem dX12_broken_191 : decode cX12_broken 191 = .ok (.if_icmp .ne 7, 3) := by decide +kernel
theorem dX12_broken_194 : decode cX12_broken 194 = .ok (.iload_n 3, 1) := by decide +kernel
theorem dX12_broken_195 : decode cX12_broken 195 = .ok (.goto 15, 3) := by decide +kernel
theorem dX12_broken_198 : decode cX12_broken 198 = .ok (.iload_n 1, 1) := by decide +kernel
theorem dX12_broken_199 : decode cX12_broken 199 = .ok (.iconst 2, 1) := by decide +kernel
theorem dX12_broken_200 : decode cX12_broken 200 = .ok (.if_icmp .ne 8, 3) := by decide +kernel
theorem dX12_broken_203 : decode cX12_broken 203 = .ok (.iload 4, 2) := by decide +kernel
theorem dX12_broken_205 : decode cX12_broken 205 = .ok (.goto 5, 3) := by decide +kernel
theorem dX12_broken_208 : decode cX12_broken 208 = .ok (.iload 5, 2) := by decide +kernel
theorem dX12_broken_210 : decode cX12_broken 210 = .ok (.ireturn, 1) := by decide +kernel
theorem dX12_comes_0 : decode cX12_comes 0 = .ok (.aload_n 0, 1) := by decide +kernel
theorem dX12_comes_1 : decode cX12_comes 1 = .ok (.getfield 23, 3) := by decide +kernel
theorem dX12_comes_4 : decode cX12_comes 4 = .ok (.iload_n 1, 1) := by decide +kernel
theorem dX12_comes_5 : decode cX12_comes 5 = .ok (.iaload, 1) := by decide +kernel
theorem dX12_comes_6 : decode cX12_comes 6 = .ok (.istore_n 3, 1) := by decide +kernel
theorem dX12_comes_7 : decode cX12_comes 7 = .ok (.iconst 0, 1) := by decide +kernel
theorem dX12_comes_8 : decode cX12_comes 8 = .ok (.istore 4, 2) := by decide +kernel
theorem dX12_comes_10 : decode cX12_comes 10 = .ok (.iload 4, 2) := by decide +kernel
theorem dX12_comes_12 : decode cX12_comes 12 = .ok (.iload_n 3, 1) := by decide +kernel
theorem dX12_comes_13 : decode cX12_comes 13 = .ok (.if_icmp .ge 23, 3) := by decide +kernel
theorem dX12_comes_16 : decode cX12_comes 16 = .ok (.aload_n 0, 1) := by decide +kernel
theorem dX12_comes_17 : decode cX12_comes 17 = .ok (.iload_n 1, 1) := by decide +kernel
theorem dX12_comes_18 : decode cX12_comes 18 = .ok (.iload 4, 2) := by decide +kernel
theorem dX12_comes_20 : decode cX12_comes 20 = .ok (.iload_n 3, 1) := by decide +kernel
theorem dX12_comes_21 : decode cX12_comes 21 = .ok (.iload_n 2, 1) := by decide +kernel
theorem dX12_comes_22 : decode cX12_comes 22 = .ok (.iload 4, 2) := by decide +kernel
theorem dX12_comes_24 : decode cX12_comes 24 = .ok (.invokestatic 138, 3) := by decide +kernel
theorem dX12_comes_27 : decode cX12_comes 27 = .ok (.invokevirtual 141, 3) := by decide +kernel
theorem dX12_comes_30 : decode cX12_comes 30 = .ok (.iinc 4 1, 3) := by decide +kernel
theorem dX12_comes_33 : decode cX12_comes 33 = .ok (.goto (-23), 3) := by decide +kernel
theorem dX12_comes_36 : decode cX12_comes 36 = .ok (.aload_n 0, 1) := by decide +kernel
theorem dX12_comes_37 : decode cX12_comes 37 = .ok (.getfield 23, 3) := by decide +kernel
theorem dX12_comes_40 : decode cX12_comes 40 = .ok (.iload_n 1, 1) := by decide +kernel
theorem dX12_comes_41 : decode cX12_comes 41 = .ok (.dup2, 1) := by decide +kernel
theorem dX12_comes_42 : decode cX12_comes 42 = .ok (.iaload, 1) := by decide +kernel
theorem dX12_comes_43 : decode cX12_comes 43 = .ok (.iconst 1, 1) := by decide +kernel
theorem dX12_comes_44 : decode cX12_comes 44 = .ok (.iadd, 1) := by decide +kernel
theorem dX12_comes_45 : decode cX12_comes 45 = .ok (.iastore, 1) := by decide +kernel
theorem dX12_comes_46 : decode cX12_comes 46 = .ok (.return_, 1) := by decide +kernel
theorem dX12_compose_0 : decode cX12_compose 0 = .ok (.aload_n 0, 1) := by decide +kernel
theorem dX12_compose_1 : decode cX12_compose 1 = .ok (.iload_n 1, 1) := by decide +kernel
theorem dX12_compose_2 : decode cX12_compose 2 = .ok (.invokevirtual 91, 3) := by decide +kernel
theorem dX12_compose_5 : decode cX12_compose 5 = .ok (.ifCond .eq 20, 3) := by decide +kernel
theorem dX12_compose_8 : decode cX12_compose 8 = .ok (.aload_n 0, 1) := by decide +kernel
theorem dX12_compose_9 : decode cX12_compose 9 = .ok (.iload_n 2, 1) := by decide +kernel
theorem dX12_compose_10 : decode cX12_compose 10 = .ok (.invokevirtual 91, 3) := by decide +kernel
theorem dX12_compose_13 : decode cX12_compose 13 = .ok (.ifCond .eq 12, 3) := by decide +kernel
theorem dX12_compose_16 : decode cX12_compose 16 = .ok (.aload_n 0, 1) := by decide +kernel
theorem dX12_compose_17 : decode cX12_compose 17 = .ok (.iload_n 1, 1) := by decide +kernel
theorem dX12_compose_18 : decode cX12_compose 18 = .ok (.iload_n 2, 1) := by decide +kernel
theorem dX12_compose_19 : decode cX12_compose 19 = .ok (.invokevirtual 109, 3) := by decide +kernel
theorem dX12_compose_22 : decode cX12_compose 22 = .ok (.goto 5, 3) := by decide +kernel
theorem dX12_compose_25 : decode cX12_compose 25 = .ok (.bipush (-2), 2) := by decide +kernel
theorem dX12_compose_27 : decode cX12_compose 27 = .ok (.ireturn, 1) := by decide +kernel
theorem dX12_composed_0 : decode cX12_composed 0 = .ok (.iconst 0, 1) := by decide +kernel
theorem dX12_composed_1 : decode cX12_composed 1 = .ok (.istore_n 3, 1) := by decide +kernel
theorem dX12_composed_2 : decode cX12_composed 2 = .ok (.iconst 0, 1) := by decide +kernel
theorem dX12_composed_3 : decode cX12_composed 3 = .ok (.istore 4, 2) := by decide +kernel
theorem dX12_composed_5 : decode cX12_composed 5 = .ok (.iload 4, 2) := by decide +kernel
theorem dX12_composed_7 : decode cX12_composed 7 = .ok (.aload_n 0, 1) := by decide +kernel
theorem dX12_composed_8 : decode cX12_composed 8 = .ok (.getfield 9, 3) := by decide +kernel
theorem dX12_composed_11 : decode cX12_composed 11 = .ok (.if_icmp .ge 87, 3) := by decide +kernel
theorem dX12_composed_14 : decode cX12_composed 14 = .ok (.iconst 0, 1) := by decide +kernel
theorem dX12_composed_15 : decode cX12_composed 15 = .ok (.istore 5, 2) := by decide +kernel
theorem dX12_composed_17 : decode cX12_composed 17 = .ok (.iload 5, 2) := by decide +kernel
theorem dX12_composed_19 : decode cX12_composed 19 = .ok (.aload_n 0, 1) := by decide +kernel
theorem dX12_composed_20 : decode cX12_composed 20 = .ok (.getfield 9, 3) := by decide +kernel
theorem dX12_composed_23 : decode cX12_composed 23 = .ok (.if_icmp .ge 69, 3) := by decide +kernel
theorem dX12_composed_26 : decode cX12_composed 26 = .ok (.iconst 0, 1) := by decide +kernel
theorem dX12_composed_27 : decode cX12_composed 27 = .ok (.istore 6, 2) := by decide +kernel
theorem dX12_composed_29 : decode cX12_composed 29 = .ok (.iload 6, 2) := by decide +kernel
theorem dX12_composed_31 : decode cX12_composed 31 = .ok (.aload_n 0, 1) := by decide +kernel
theorem dX12_composed_32 : decode cX12_composed 32 = .ok (.getfield 9, 3) := by decide +kernel
theorem dX12_composed_35 : decode cX12_composed 35 = .ok (.if_icmp .ge 51, 3) := by decide +kernel
theorem dX12_composed_38 : decode cX12_composed 38 = .ok (.iload_n 3, 1) := by decide +kernel
theorem dX12_composed_39 : decode cX12_composed 39 = .ok (.iload_n 1, 1) := by decide +kernel
theorem dX12_composed_40 : decode cX12_composed 40 = .ok (.iload 4, 2) := by decide +kernel
theorem dX12_composed_42 : decode cX12_composed 42 = .ok (.invokestatic 87, 3) := by decide +kernel
theorem dX12_composed_45 : decode cX12_composed 45 = .ok (.ifCond .eq 32, 3) := by decide +kernel
theorem dX12_composed_48 : decode cX12_composed 48 = .ok (.iload_n 2, 1) := by decide +kernel
theorem dX12_composed_49 : decode cX12_composed 49 = .ok (.iload 5, 2) := by decide +kernel
theorem dX12_composed_51 : decode cX12_composed 51 = .ok (.invokestatic 87, 3) := by decide +kernel
theorem dX12_composed_54 : decode cX12_composed 54 = .ok (.ifCond .eq 23, 3) := by decide +kernel
theorem dX12_composed_57 : decode cX12_composed 57 = .ok (.aload_n 0, 1) := by decide +kernel
theorem dX12_composed_58 : decode cX12_composed 58 = .ok (.iload 4, 2) := by decide +kernel
theorem dX12_composed_60 : decode cX12_composed 60 = .ok (.iload 5, 2) := by decide +kernel
theorem dX12_composed_62 : decode cX12_composed 62 = .ok (.iload 6, 2) := by decide +kernel
theorem dX12_composed_64 : decode cX12_composed 64 = .ok (.invokevirtual 105, 3) := by decide +kernel
theorem dX12_composed_67 : decode cX12_composed 67 = .ok (.ifCond .eq 10, 3) := by decide +kernel
theorem dX12_composed_70 : decode cX12_composed 70 = .ok (.iconst 1, 1) := by decide +kernel
theorem dX12_composed_71 : decode cX12_composed 71 = .ok (.iload 6, 2) := by decide +kernel
theorem dX12_composed_73 : decode cX12_composed 73 = .ok (.ishl, 1) := by decide +kernel
theorem dX12_composed_74 : decode cX12_composed 74 = .ok (.goto 4, 3) := by decide +kernel
theorem dX12_composed_77 : decode cX12_composed 77 = .ok (.iconst 0, 1) := by decide +kernel
theorem dX12_composed_78 : decode cX12_composed 78 = .ok (.ior, 1) := by decide +kernel
theorem dX12_composed_79 : decode cX12_composed 79 = .ok (.istore_n 3, 1) := by decide +kernel
theorem dX12_composed_80 : decode cX12_composed 80 = .ok (.iinc 6 1, 3) := by decide +kernel
theorem dX12_composed_83 : decode cX12_composed 83 = .ok (.goto (-54), 3) := by decide +kernel
theorem dX12_composed_86 : decode cX12_composed 86 = .ok (.iinc 5 1, 3) := by decide +kernel
theorem dX12_composed_89 : decode cX12_composed 89 = .ok (.goto (-72), 3) := by decide +kernel
theorem dX12_composed_92 : decode cX12_composed 92 = .ok (.iinc 4 1, 3) := by decide +kernel
theorem dX12_composed_95 : decode cX12_composed 95 = .ok (.goto (-90), 3) := by decide +kernel
theorem dX12_composed_98 : decode cX12_composed 98 = .ok (.iload_n 3, 1) := by decide +kernel
theorem dX12_composed_99 : decode cX12_composed 99 = .ok (.ireturn, 1) := by decide +kernel
theorem dX12_composedBy_0 : decode cX12_composedBy 0 = .ok (.iload_n 3, 1) := by decide +kernel
theorem dX12_composedBy_1 : decode cX12_composedBy 1 = .ok (.ifCond .ne 12, 3) := by decide +kernel
theorem dX12_composedBy_4 : decode cX12_composedBy 4 = .ok (.aload_n 0, 1) := by decide +kernel
theorem dX12_composedBy_5 : decode cX12_composedBy 5 = .ok (.iload_n 1, 1) := by decide +kernel
theorem dX12_composedBy_6 : decode cX12_composedBy 6 = .ok (.iload_n 2, 1) := by decide +kernel
theorem dX12_composedBy_7 : decode cX12_composedBy 7 = .ok (.invokevirtual 109, 3) := by decide +kernel
theorem dX12_composedBy_10 : decode cX12_composedBy 10 = .ok (.goto 9, 3) := by decide +kernel
theorem dX12_composedBy_13 : decode cX12_composedBy 13 = .ok (.aload_n 0, 1) := by decide +kernel
theorem dX12_composedBy_14 : decode cX12_composedBy 14 = .ok (.iload_n 2, 1) := by decide +kernel
theorem dX12_composedBy_15 : decode cX12_composedBy 15 = .ok (.iload_n 1, 1) := by decide +kernel
theorem dX12_composedBy_16 : decode cX12_composedBy 16 = .ok (.invokevirtual 109, 3) := by decide +kernel
theorem dX12_composedBy_19 : decode cX12_composedBy 19 = .ok (.ireturn, 1) := by decide +kernel
theorem dX12_converse_0 : decode cX12_converse 0 = .ok (.aload_n 0, 1) := by decide +kernel
theorem dX12_converse_1 : decode cX12_converse 1 = .ok (.iload_n 1, 1) := by decide +kernel
theorem dX12_converse_2 : decode cX12_converse 2 = .ok (.invokevirtual 91, 3) := by decide +kernel
theorem dX12_converse_5 : decode cX12_converse 5 = .ok (.ifCond .eq 11, 3) := by decide +kernel
theorem dX12_converse_8 : decode cX12_converse 8 = .ok (.aload_n 0, 1) := by decide +kernel
theorem dX12_converse_9 : decode cX12_converse 9 = .ok (.iload_n 1, 1) := by decide +kernel
theorem dX12_converse_10 : decode cX12_converse 10 = .ok (.invokevirtual 94, 3) := by decide +kernel
theorem dX12_converse_13 : decode cX12_converse 13 = .ok (.goto 5, 3) := by decide +kernel
theorem dX12_converse_16 : decode cX12_converse 16 = .ok (.bipush (-2), 2) := by decide +kernel
theorem dX12_converse_18 : decode cX12_converse 18 = .ok (.ireturn, 1) := by decide +kernel
theorem dX12_copy_0 : decode cX12_copy 0 = .ok (.iload_n 1, 1) := by decide +kernel
theorem dX12_copy_1 : decode cX12_copy 1 = .ok (.invokestatic 145, 3) := by decide +kernel
theorem dX12_copy_4 : decode cX12_copy 4 = .ok (.ifCond .eq 10, 3) := by decide +kernel
theorem dX12_copy_7 : decode cX12_copy 7 = .ok (.iload_n 2, 1) := by decide +kernel
theorem dX12_copy_8 : decode cX12_copy 8 = .ok (.invokestatic 145, 3) := by decide +kernel
theorem dX12_copy_11 : decode cX12_copy 11 = .ok (.ifCond .ne 5, 3) := by decide +kernel
theorem dX12_copy_14 : decode cX12_copy 14 = .ok (.iconst (-1), 1) := by decide +kernel
theorem dX12_copy_15 : decode cX12_copy 15 = .ok (.ireturn, 1) := by decide +kernel
theorem dX12_copy_16 : decode cX12_copy 16 = .ok (.aload_n 0, 1) := by decide +kernel
theorem dX12_copy_17 : decode cX12_copy 17 = .ok (.iload_n 1, 1) := by decide +kernel
theorem dX12_copy_18 : decode cX12_copy 18 = .ok (.iload_n 2, 1) := by decide +kernel
theorem dX12_copy_19 : decode cX12_copy 19 = .ok (.invokevirtual 161, 3) := by decide +kernel
theorem dX12_copy_22 : decode cX12_copy 22 = .ok (.aload_n 0, 1) := by decide +kernel
theorem dX12_copy_23 : decode cX12_copy 23 = .ok (.getfield 23, 3) := by decide +kernel
theorem dX12_copy_26 : decode cX12_copy 26 = .ok (.iload_n 2, 1) := by decide +kernel
theorem dX12_copy_27 : decode cX12_copy 27 = .ok (.iaload, 1) := by decide +kernel
theorem dX12_copy_28 : decode cX12_copy 28 = .ok (.ireturn, 1) := by decide +kernel
theorem dX12_count_0 : decode cX12_count 0 = .ok (.iload_n 1, 1) := by decide +kernel
theorem dX12_count_1 : decode cX12_count 1 = .ok (.tableswitch 119 0 4 #[35, 40, 61, 66, 101], 35) := by decide +kernel
theorem dX12_count_36 : decode cX12_count 36 = .ok (.aload_n 0, 1) := by decide +kernel
theorem dX12_count_37 : decode cX12_count 37 = .ok (.getfield 9, 3) := by decide +kernel
theorem dX12_count_40 : decode cX12_count 40 = .ok (.ireturn, 1) := by decide +kernel
theorem dX12_count_41 : decode cX12_count 41 = .ok (.aload_n 0, 1) := by decide +kernel
theorem dX12_count_42 : decode cX12_count 42 = .ok (.getfield 23, 3) := by decide +kernel
theorem dX12_count_45 : decode cX12_count 45 = .ok (.iconst 0, 1) := by decide +kernel
theorem dX12_count_46 : decode cX12_count 46 = .ok (.iaload, 1) := by decide +kernel
theorem dX12_count_47 : decode cX12_count 47 = .ok (.aload_n 0, 1) := by decide +kernel
theorem dX12_count_48 : decode cX12_count 48 = .ok (.getfield 23, 3) := by decide +kernel
theorem dX12_count_51 : decode cX12_count 51 = .ok (.iconst 1, 1) := by decide +kernel
theorem dX12_count_52 : decode cX12_count 52 = .ok (.iaload, 1) := by decide +kernel
theorem dX12_count_53 : decode cX12_count 53 = .ok (.iadd, 1) := by decide +kernel
theorem dX12_count_54 : decode cX12_count 54 = .ok (.aload_n 0, 1) := by decide +kernel
theorem dX12_count_55 : decode cX12_count 55 = .ok (.getfield 23, 3) := by decide +kernel
theorem dX12_count_58 : decode cX12_count 58 = .ok (.iconst 2, 1) := by decide +kernel
theorem dX12_count_59 : decode cX12_count 59 = .ok (.iaload, 1) := by decide +kernel
theorem dX12_count_60 : decode cX12_count 60 = .ok (.iadd, 1) := by decide +kernel
theorem dX12_count_61 : decode cX12_count 61 = .ok (.ireturn, 1) := by decide +kernel
theorem dX12_count_62 : decode cX12_count 62 = .ok (.aload_n 0, 1) := by decide +kernel
theorem dX12_count_63 : decode cX12_count 63 = .ok (.getfield 261, 3) := by decide +kernel
theorem dX12_count_66 : decode cX12_count 66 = .ok (.ireturn, 1) := by decide +kernel
theorem dX12_count_67 : decode cX12_count 67 = .ok (.iconst 0, 1) := by decide +kernel
theorem dX12_count_68 : decode cX12_count 68 = .ok (.istore_n 2, 1) := by decide +kernel
theorem dX12_count_69 : decode cX12_count 69 = .ok (.iconst 0, 1) := by decide +kernel
theorem dX12_count_70 : decode cX12_count 70 = .ok (.istore_n 3, 1) := by decide +kernel
theorem dX12_count_71 : decode cX12_count 71 = .ok (.iload_n 3, 1) := by decide +kernel
theorem dX12_count_72 : decode cX12_count 72 = .ok (.iconst 3, 1) := by decide +kernel
theorem dX12_count_73 : decode cX12_count 73 = .ok (.if_icmp .ge 27, 3) := by decide +kernel
theorem dX12_count_76 : decode cX12_count 76 = .ok (.iload_n 2, 1) := by decide +kernel
theorem dX12_count_77 : decode cX12_count 77 = .ok (.aload_n 0, 1) := by decide +kernel
theorem dX12_count_78 : decode cX12_count 78 = .ok (.getfield 35, 3) := by decide +kernel
theorem dX12_count_81 : decode cX12_count 81 = .ok (.iload_n 3, 1) := by decide +kernel
theorem dX12_count_82 : decode cX12_count 82 = .ok (.iaload, 1) := by decide +kernel
theorem dX12_count_83 : decode cX12_count 83 = .ok (.iconst (-1), 1) := by decide +kernel
theorem dX12_count_84 : decode cX12_count 84 = .ok (.if_icmp .ne 7, 3) := by decide +kernel
theorem dX12_count_87 : decode cX12_count 87 = .ok (.iconst 0, 1) := by decide +kernel
theorem dX12_count_88 : decode cX12_count 88 = .ok (.goto 4, 3) := by decide +kernel
theorem dX12_count_91 : decode cX12_count 91 = .ok (.iconst 1, 1) := by decide +kernel
theorem dX12_count_92 : decode cX12_count 92 = .ok (.iadd, 1) := by decide +kernel
theorem dX12_count_93 : decode cX12_count 93 = .ok (.istore_n 2, 1) := by decide +kernel
theorem dX12_count_94 : decode cX12_count 94 = .ok (.iinc 3 1, 3) := by decide +kernel
theorem dX12_count_97 : decode cX12_count 97 = .ok (.goto (-26), 3) := by decide +kernel
theorem dX12_count_100 : decode cX12_count 100 = .ok (.iload_n 2, 1) := by decide +kernel
theorem dX12_count_101 : decode cX12_count 101 = .ok (.ireturn, 1) := by decide +kernel
theorem dX12_count_102 : decode cX12_count 102 = .ok (.aload_n 0, 1) := by decide +kernel
theorem dX12_count_103 : decode cX12_count 103 = .ok (.getfield 74, 3) := by decide +kernel
theorem dX12_count_106 : decode cX12_count 106 = .ok (.ifCond .eq 12, 3) := by decide +kernel
theorem dX12_count_109 : decode cX12_count 109 = .ok (.aload_n 0, 1) := by decide +kernel
theorem dX12_count_110 : decode cX12_count 110 = .ok (.getfield 23, 3) := by decide +kernel
theorem dX12_count_113 : decode cX12_count 113 = .ok (.iconst 3, 1) := by decide +kernel
theorem dX12_count_114 : decode cX12_count 114 = .ok (.iaload, 1) := by decide +kernel
theorem dX12_count_115 : decode cX12_count 115 = .ok (.goto 4, 3) := by decide +kernel
theorem dX12_count_118 : decode cX12_count 118 = .ok (.iconst 0, 1) := by decide +kernel
theorem dX12_count_119 : decode cX12_count 119 = .ok (.ireturn, 1) := by decide +kernel
theorem dX12_count_120 : decode cX12_count 120 = .ok (.iconst (-1), 1) := by decide +kernel
theorem dX12_count_121 : decode cX12_count 121 = .ok (.ireturn, 1) := by decide +kernel
theorem dX12_cycleOf_0 : decode cX12_cycleOf 0 = .ok (.iconst 0, 1) := by decide +kernel
theorem dX12_cycleOf_1 : decode cX12_cycleOf 1 = .ok (.istore 4, 2) := by decide +kernel
theorem dX12_cycleOf_3 : decode cX12_cycleOf 3 = .ok (.iconst 0, 1) := by decide +kernel
theorem dX12_cycleOf_4 : decode cX12_cycleOf 4 = .ok (.istore 5, 2) := by decide +kernel
theorem dX12_cycleOf_6 : decode cX12_cycleOf 6 = .ok (.iload 5, 2) := by decide +kernel
theorem dX12_cycleOf_8 : decode cX12_cycleOf 8 = .ok (.bipush 6, 2) := by decide +kernel
theorem dX12_cycleOf_10 : decode cX12_cycleOf 10 = .ok (.if_icmp .ge 76, 3) := by decide +kernel
theorem dX12_cycleOf_13 : decode cX12_cycleOf 13 = .ok (.iconst 1, 1) := by decide +kernel
theorem dX12_cycleOf_14 : decode cX12_cycleOf 14 = .ok (.istore 6, 2) := by decide +kernel
theorem dX12_cycleOf_16 : decode cX12_cycleOf 16 = .ok (.iconst 0, 1) := by decide +kernel
theorem dX12_cycleOf_17 : decode cX12_cycleOf 17 = .ok (.istore 7, 2) := by decide +kernel
theorem dX12_cycleOf_19 : decode cX12_cycleOf 19 = .ok (.iload 7, 2) := by decide +kernel
theorem dX12_cycleOf_21 : decode cX12_cycleOf 21 = .ok (.iload 5, 2) := by decide +kernel
theorem dX12_cycleOf_23 : decode cX12_cycleOf 23 = .ok (.if_icmp .ge 42, 3) := by decide +kernel
theorem dX12_cycleOf_26 : decode cX12_cycleOf 26 = .ok (.iload 6, 2) := by decide +kernel
theorem dX12_cycleOf_28 : decode cX12_cycleOf 28 = .ok (.ifCond .eq 28, 3) := by decide +kernel
theorem dX12_cycleOf_31 : decode cX12_cycleOf 31 = .ok (.aload_n 0, 1) := by decide +kernel
theorem dX12_cycleOf_32 : decode cX12_cycleOf 32 = .ok (.iload_n 1, 1) := by decide +kernel
theorem dX12_cycleOf_33 : decode cX12_cycleOf 33 = .ok (.iload_n 2, 1) := by decide +kernel
theorem dX12_cycleOf_34 : decode cX12_cycleOf 34 = .ok (.iload_n 3, 1) := by decide +kernel
theorem dX12_cycleOf_35 : decode cX12_cycleOf 35 = .ok (.iload 7, 2) := by decide +kernel
theorem dX12_cycleOf_37 : decode cX12_cycleOf 37 = .ok (.invokevirtual 101, 3) := by decide +kernel
theorem dX12_cycleOf_40 : decode cX12_cycleOf 40 = .ok (.aload_n 0, 1) := by decide +kernel
theorem dX12_cycleOf_41 : decode cX12_cycleOf 41 = .ok (.iload_n 1, 1) := by decide +kernel
theorem dX12_cycleOf_42 : decode cX12_cycleOf 42 = .ok (.iload_n 2, 1) := by decide +kernel
theorem dX12_cycleOf_43 : decode cX12_cycleOf 43 = .ok (.iload_n 3, 1) := by decide +kernel
theorem dX12_cycleOf_44 : decode cX12_cycleOf 44 = .ok (.iload 5, 2) := by decide +kernel
theorem dX12_cycleOf_46 : decode cX12_cycleOf 46 = .ok (.invokevirtual 101, 3) := by decide +kernel
theorem dX12_cycleOf_49 : decode cX12_cycleOf 49 = .ok (.if_icmp .eq 7, 3) := by decide +kernel
theorem dX12_cycleOf_52 : decode cX12_cycleOf 52 = .ok (.iconst 1, 1) := by decide +kernel
theorem dX12_cycleOf_53 : decode cX12_cycleOf 53 = .ok (.goto 4, 3) := by decide +kernel
theorem dX12_cycleOf_56 : decode cX12_cycleOf 56 = .ok (.iconst 0, 1) := by decide +kernel
theorem dX12_cycleOf_57 : decode cX12_cycleOf 57 = .ok (.istore 6, 2) := by decide +kernel
theorem dX12_cycleOf_59 : decode cX12_cycleOf 59 = .ok (.iinc 7 1, 3) := by decide +kernel
theorem dX12_cycleOf_62 : decode cX12_cycleOf 62 = .ok (.goto (-43), 3) := by decide +kernel
theorem dX12_cycleOf_65 : decode cX12_cycleOf 65 = .ok (.iload 4, 2) := by decide +kernel
theorem dX12_cycleOf_67 : decode cX12_cycleOf 67 = .ok (.iload 6, 2) := by decide +kernel
theorem dX12_cycleOf_69 : decode cX12_cycleOf 69 = .ok (.ifCond .eq 7, 3) := by decide +kernel
theorem dX12_cycleOf_72 : decode cX12_cycleOf 72 = .ok (.iconst 1, 1) := by decide +kernel
theorem dX12_cycleOf_73 : decode cX12_cycleOf 73 = .ok (.goto 4, 3) := by decide +kernel
theorem dX12_cycleOf_76 : decode cX12_cycleOf 76 = .ok (.iconst 0, 1) := by decide +kernel
theorem dX12_cycleOf_77 : decode cX12_cycleOf 77 = .ok (.iadd, 1) := by decide +kernel
theorem dX12_cycleOf_78 : decode cX12_cycleOf 78 = .ok (.istore 4, 2) := by decide +kernel
theorem dX12_cycleOf_80 : decode cX12_cycleOf 80 = .ok (.iinc 5 1, 3) := by decide +kernel
theorem dX12_cycleOf_83 : decode cX12_cycleOf 83 = .ok (.goto (-77), 3) := by decide +kernel
theorem dX12_cycleOf_86 : decode cX12_cycleOf 86 = .ok (.iload 4, 2) := by decide +kernel
theorem dX12_cycleOf_88 : decode cX12_cycleOf 88 = .ok (.ireturn, 1) := by decide +kernel
theorem dX12_cycles_0 : decode cX12_cycles 0 = .ok (.iload_n 1, 1) := by decide +kernel
theorem dX12_cycles_1 : decode cX12_cycles 1 = .ok (.i2l, 1) := by decide +kernel
theorem dX12_cycles_2 : decode cX12_cycles 2 = .ok (.lconst 0, 1) := by decide +kernel
theorem dX12_cycles_3 : decode cX12_cycles 3 = .ok (.ldc2_w 125, 3) := by decide +kernel
theorem dX12_cycles_6 : decode cX12_cycles 6 = .ok (.invokestatic 70, 3) := by decide +kernel
theorem dX12_cycles_9 : decode cX12_cycles 9 = .ok (.ifCond .ne 5, 3) := by decide +kernel
theorem dX12_cycles_12 : decode cX12_cycles 12 = .ok (.iconst (-1), 1) := by decide +kernel
theorem dX12_cycles_13 : decode cX12_cycles 13 = .ok (.ireturn, 1) := by decide +kernel
theorem dX12_cycles_14 : decode cX12_cycles 14 = .ok (.iconst 0, 1) := by decide +kernel
theorem dX12_cycles_15 : decode cX12_cycles 15 = .ok (.istore_n 2, 1) := by decide +kernel
theorem dX12_cycles_16 : decode cX12_cycles 16 = .ok (.iconst 0, 1) := by decide +kernel
theorem dX12_cycles_17 : decode cX12_cycles 17 = .ok (.istore_n 3, 1) := by decide +kernel
theorem dX12_cycles_18 : decode cX12_cycles 18 = .ok (.iconst 0, 1) := by decide +kernel
theorem dX12_cycles_19 : decode cX12_cycles 19 = .ok (.istore 4, 2) := by decide +kernel
theorem dX12_cycles_21 : decode cX12_cycles 21 = .ok (.iconst 0, 1) := by decide +kernel
theorem dX12_cycles_22 : decode cX12_cycles 22 = .ok (.istore 5, 2) := by decide +kernel
theorem dX12_cycles_24 : decode cX12_cycles 24 = .ok (.iconst 0, 1) := by decide +kernel
theorem dX12_cycles_25 : decode cX12_cycles 25 = .ok (.istore 6, 2) := by decide +kernel
theorem dX12_cycles_27 : decode cX12_cycles 27 = .ok (.iload 6, 2) := by decide +kernel
theorem dX12_cycles_29 : decode cX12_cycles 29 = .ok (.aload_n 0, 1) := by decide +kernel
theorem dX12_cycles_30 : decode cX12_cycles 30 = .ok (.getfield 9, 3) := by decide +kernel
theorem dX12_cycles_33 : decode cX12_cycles 33 = .ok (.if_icmp .ge 155, 3) := by decide +kernel
theorem dX12_cycles_36 : decode cX12_cycles 36 = .ok (.iconst 0, 1) := by decide +kernel
theorem dX12_cycles_37 : decode cX12_cycles 37 = .ok (.istore 7, 2) := by decide +kernel
theorem dX12_cycles_39 : decode cX12_cycles 39 = .ok (.iload 7, 2) := by decide +kernel
theorem dX12_cycles_41 : decode cX12_cycles 41 = .ok (.aload_n 0, 1) := by decide +kernel
theorem dX12_cycles_42 : decode cX12_cycles 42 = .ok (.getfield 9, 3) := by decide +kernel
theorem dX12_cycles_45 : decode cX12_cycles 45 = .ok (.if_icmp .ge 137, 3) := by decide +kernel
theorem dX12_cycles_48 : decode cX12_cycles 48 = .ok (.iconst 0, 1) := by decide +kernel
theorem dX12_cycles_49 : decode cX12_cycles 49 = .ok (.istore 8, 2) := by decide +kernel
theorem dX12_cycles_51 : decode cX12_cycles 51 = .ok (.iload 8, 2) := by decide +kernel
theorem dX12_cycles_53 : decode cX12_cycles 53 = .ok (.aload_n 0, 1) := by decide +kernel
theorem dX12_cycles_54 : decode cX12_cycles 54 = .ok (.getfield 9, 3) := by decide +kernel
theorem dX12_cycles_57 : decode cX12_cycles 57 = .ok (.if_icmp .ge 119, 3) := by decide +kernel
theorem dX12_cycles_60 : decode cX12_cycles 60 = .ok (.iload 5, 2) := by decide +kernel
theorem dX12_cycles_62 : decode cX12_cycles 62 = .ok (.aload_n 0, 1) := by decide +kernel
theorem dX12_cycles_63 : decode cX12_cycles 63 = .ok (.iload 6, 2) := by decide +kernel
theorem dX12_cycles_65 : decode cX12_cycles 65 = .ok (.iload 7, 2) := by decide +kernel
theorem dX12_cycles_67 : decode cX12_cycles 67 = .ok (.iload 8, 2) := by decide +kernel
theorem dX12_cycles_69 : decode cX12_cycles 69 = .ok (.invokevirtual 105, 3) := by decide +kernel
theorem dX12_cycles_72 : decode cX12_cycles 72 = .ok (.ifCond .eq 7, 3) := by decide +kernel
theorem dX12_cycles_75 : decode cX12_cycles 75 = .ok (.iconst 1, 1) := by decide +kernel
theorem dX12_cycles_76 : decode cX12_cycles 76 = .ok (.goto 4, 3) := by decide +kernel
theorem dX12_cycles_79 : decode cX12_cycles 79 = .ok (.iconst 0, 1) := by decide +kernel
theorem dX12_cycles_80 : decode cX12_cycles 80 = .ok (.iadd, 1) := by decide +kernel
theorem dX12_cycles_81 : decode cX12_cycles 81 = .ok (.istore 5, 2) := by decide +kernel
theorem dX12_cycles_83 : decode cX12_cycles 83 = .ok (.iload 6, 2) := by decide +kernel
theorem dX12_cycles_85 : decode cX12_cycles 85 = .ok (.ifCond .le 85, 3) := by decide +kernel
theorem dX12_cycles_88 : decode cX12_cycles 88 = .ok (.iload 7, 2) := by decide +kernel
theorem dX12_cycles_90 : decode cX12_cycles 90 = .ok (.ifCond .le 80, 3) := by decide +kernel
theorem dX12_cycles_93 : decode cX12_cycles 93 = .ok (.iload 8, 2) := by decide +kernel
theorem dX12_cycles_95 : decode cX12_cycles 95 = .ok (.ifCond .le 75, 3) := by decide +kernel
theorem dX12_cycles_98 : decode cX12_cycles 98 = .ok (.aload_n 0, 1) := by decide +kernel
theorem dX12_cycles_99 : decode cX12_cycles 99 = .ok (.iload 6, 2) := by decide +kernel
theorem dX12_cycles_101 : decode cX12_cycles 101 = .ok (.iload 7, 2) := by decide +kernel
theorem dX12_cycles_103 : decode cX12_cycles 103 = .ok (.iload 8, 2) := by decide +kernel
theorem dX12_cycles_105 : decode cX12_cycles 105 = .ok (.invokevirtual 127, 3) := by decide +kernel
theorem dX12_cycles_108 : decode cX12_cycles 108 = .ok (.ifCond .eq 62, 3) := by decide +kernel
theorem dX12_cycles_111 : decode cX12_cycles 111 = .ok (.iinc 3 1, 3) := by decide +kernel
theorem dX12_cycles_114 : decode cX12_cycles 114 = .ok (.iload_n 2, 1) := by decide +kernel
theorem dX12_cycles_115 : decode cX12_cycles 115 = .ok (.aload_n 0, 1) := by decide +kernel
theorem dX12_cycles_116 : decode cX12_cycles 116 = .ok (.iload 6, 2) := by decide +kernel
theorem dX12_cycles_118 : decode cX12_cycles 118 = .ok (.iload 7, 2) := by decide +kernel
theorem dX12_cycles_120 : decode cX12_cycles 120 = .ok (.iload 8, 2) := by decide +kernel
theorem dX12_cycles_122 : decode cX12_cycles 122 = .ok (.invokevirtual 105, 3) := by decide +kernel
theorem dX12_cycles_125 : decode cX12_cycles 125 = .ok (.ifCond .eq 7, 3) := by decide +kernel
theorem dX12_cycles_128 : decode cX12_cycles 128 = .ok (.iconst 1, 1) := by decide +kernel
theorem dX12_cycles_129 : decode cX12_cycles 129 = .ok (.goto 4, 3) := by decide +kernel
theorem dX12_cycles_132 : decode cX12_cycles 132 = .ok (.iconst 0, 1) := by decide +kernel
theorem dX12_cycles_133 : decode cX12_cycles 133 = .ok (.iadd, 1) := by decide +kernel
theorem dX12_cycles_134 : decode cX12_cycles 134 = .ok (.istore_n 2, 1) := by decide +kernel
theorem dX12_cycles_135 : decode cX12_cycles 135 = .ok (.aload_n 0, 1) := by decide +kernel
theorem dX12_cycles_136 : decode cX12_cycles 136 = .ok (.iload 6, 2) := by decide +kernel
theorem dX12_cycles_138 : decode cX12_cycles 138 = .ok (.iload 7, 2) := by decide +kernel
theorem dX12_cycles_140 : decode cX12_cycles 140 = .ok (.iload 8, 2) := by decide +kernel
theorem dX12_cycles_142 : decode cX12_cycles 142 = .ok (.invokevirtual 105, 3) := by decide +kernel
theorem dX12_cycles_145 : decode cX12_cycles 145 = .ok (.ifCond .eq 21, 3) := by decide +kernel
theorem dX12_cycles_148 : decode cX12_cycles 148 = .ok (.iload 4, 2) := by decide +kernel
theorem dX12_cycles_150 : decode cX12_cycles 150 = .ok (.aload_n 0, 1) := by decide +kernel
theorem dX12_cycles_151 : decode cX12_cycles 151 = .ok (.iload 6, 2) := by decide +kernel
theorem dX12_cycles_153 : decode cX12_cycles 153 = .ok (.iload 7, 2) := by decide +kernel
theorem dX12_cycles_155 : decode cX12_cycles 155 = .ok (.iload 8, 2) := by decide +kernel
theorem dX12_cycles_157 : decode cX12_cycles 157 = .ok (.invokevirtual 130, 3) := by decide +kernel
theorem dX12_cycles_160 : decode cX12_cycles 160 = .ok (.invokestatic 133, 3) := by decide +kernel
theorem dX12_cycles_163 : decode cX12_cycles 163 = .ok (.goto 5, 3) := by decide +kernel
theorem dX12_cycles_166 : decode cX12_cycles 166 = .ok (.iload 4, 2) := by decide +kernel
theorem dX12_cycles_168 : decode cX12_cycles 168 = .ok (.istore 4, 2) := by decide +kernel
theorem dX12_cycles_170 : decode cX12_cycles 170 = .ok (.iinc 8 1, 3) := by decide +kernel
theorem dX12_cycles_173 : decode cX12_cycles 173 = .ok (.goto (-122), 3) := by decide +kernel
theorem dX12_cycles_176 : decode cX12_cycles 176 = .ok (.iinc 7 1, 3) := by decide +kernel
theorem dX12_cycles_179 : decode cX12_cycles 179 = .ok (.goto (-140), 3) := by decide +kernel
theorem dX12_cycles_182 : decode cX12_cycles 182 = .ok (.iinc 6 1, 3) := by decide +kernel
theorem dX12_cycles_185 : decode cX12_cycles 185 = .ok (.goto (-158), 3) := by decide +kernel
theorem dX12_cycles_188 : decode cX12_cycles 188 = .ok (.iload_n 1, 1) := by decide +kernel
theorem dX12_cycles_189 : decode cX12_cycles 189 = .ok (.ifCond .ne 7, 3) := by decide +kernel
theorem dX12_cycles_192 : decode cX12_cycles 192 = .ok (.iload_n 2, 1) := by decide +kernel
theorem dX12_cycles_193 : decode cX12_cycles 193 = .ok (.goto 24, 3) := by decide +kernel
theorem dX12_cycles_196 : decode cX12_cycles 196 = .ok (.iload_n 1, 1) := by decide +kernel
theorem dX12_cycles_197 : decode cX12_cycles 197 = .ok (.iconst 1, 1) := by decide +kernel
theorem dX12_cycles_198 : decode cX12_cycles 198 = .ok (.if_icmp .ne 7, 3) := by decide +kernel
theorem dX12_cycles_201 : decode cX12_cycles 201 = .ok (.iload_n 3, 1) := by decide +kernel
theorem dX12_cycles_202 : decode cX12_cycles 202 = .ok (.goto 15, 3) := by decide +kernel
theorem dX12_cycles_205 : decode cX12_cycles 205 = .ok (.iload_n 1, 1) := by decide +kernel
theorem dX12_cycles_206 : decode cX12_cycles 206 = .ok (.iconst 2, 1) := by decide +kernel
theorem dX12_cycles_207 : decode cX12_cycles 207 = .ok (.if_icmp .ne 8, 3) := by decide +kernel
theorem dX12_cycles_210 : decode cX12_cycles 210 = .ok (.iload 5, 2) := by decide +kernel
theorem dX12_cycles_212 : decode cX12_cycles 212 = .ok (.goto 5, 3) := by decide +kernel
theorem dX12_cycles_215 : decode cX12_cycles 215 = .ok (.iload 4, 2) := by decide +kernel
theorem dX12_cycles_217 : decode cX12_cycles 217 = .ok (.ireturn, 1) := by decide +kernel
theorem dX12_digit_0 : decode cX12_digit 0 = .ok (.iload_n 0, 1) := by decide +kernel
theorem dX12_digit_1 : decode cX12_digit 1 = .ok (.istore_n 2, 1) := by decide +kernel
theorem dX12_digit_2 : decode cX12_digit 2 = .ok (.iconst 0, 1) := by decide +kernel
theorem dX12_digit_3 : decode cX12_digit 3 = .ok (.istore_n 3, 1) := by decide +kernel
theorem dX12_digit_4 : decode cX12_digit 4 = .ok (.iload_n 3, 1) := by decide +kernel
theorem dX12_digit_5 : decode cX12_digit 5 = .ok (.iload_n 1, 1) := by decide +kernel
theorem dX12_digit_6 : decode cX12_digit 6 = .ok (.if_icmp .ge 14, 3) := by decide +kernel
theorem dX12_digit_9 : decode cX12_digit 9 = .ok (.iload_n 2, 1) := by decide +kernel
theorem dX12_digit_10 : decode cX12_digit 10 = .ok (.bipush 10, 2) := by decide +kernel
theorem dX12_digit_12 : decode cX12_digit 12 = .ok (.idiv, 1) := by decide +kernel
theorem dX12_digit_13 : decode cX12_digit 13 = .ok (.istore_n 2, 1) := by decide +kernel
theorem dX12_digit_14 : decode cX12_digit 14 = .ok (.iinc 3 1, 3) := by decide +kernel
theorem dX12_digit_17 : decode cX12_digit 17 = .ok (.goto (-13), 3) := by decide +kernel
theorem dX12_digit_20 : decode cX12_digit 20 = .ok (.iload_n 2, 1) := by decide +kernel
theorem dX12_digit_21 : decode cX12_digit 21 = .ok (.bipush 10, 2) := by decide +kernel
theorem dX12_digit_23 : decode cX12_digit 23 = .ok (.irem, 1) := by decide +kernel
theorem dX12_digit_24 : decode cX12_digit 24 = .ok (.ireturn, 1) := by decide +kernel
theorem dX12_drop_0 : decode cX12_drop 0 = .ok (.iload_n 1, 1) := by decide +kernel
theorem dX12_drop_1 : decode cX12_drop 1 = .ok (.invokestatic 145, 3) := by decide +kernel
theorem dX12_drop_4 : decode cX12_drop 4 = .ok (.ifCond .ne 5, 3) := by decide +kernel
theorem dX12_drop_7 : decode cX12_drop 7 = .ok (.iconst (-1), 1) := by decide +kernel
theorem dX12_drop_8 : decode cX12_drop 8 = .ok (.ireturn, 1) := by decide +kernel
theorem dX12_drop_9 : decode cX12_drop 9 = .ok (.aload_n 0, 1) := by decide +kernel
theorem dX12_drop_10 : decode cX12_drop 10 = .ok (.getfield 23, 3) := by decide +kernel
theorem dX12_drop_13 : decode cX12_drop 13 = .ok (.iload_n 1, 1) := by decide +kernel
theorem dX12_drop_14 : decode cX12_drop 14 = .ok (.iaload, 1) := by decide +kernel
theorem dX12_drop_15 : decode cX12_drop 15 = .ok (.ifCond .ne 6, 3) := by decide +kernel
theorem dX12_drop_18 : decode cX12_drop 18 = .ok (.bipush (-3), 2) := by decide +kernel
theorem dX12_drop_20 : decode cX12_drop 20 = .ok (.ireturn, 1) := by decide +kernel
theorem dX12_drop_21 : decode cX12_drop 21 = .ok (.aload_n 0, 1) := by decide +kernel
theorem dX12_drop_22 : decode cX12_drop 22 = .ok (.getfield 23, 3) := by decide +kernel
theorem dX12_drop_25 : decode cX12_drop 25 = .ok (.iload_n 1, 1) := by decide +kernel
theorem dX12_drop_26 : decode cX12_drop 26 = .ok (.dup2, 1) := by decide +kernel
theorem dX12_drop_27 : decode cX12_drop 27 = .ok (.iaload, 1) := by decide +kernel
theorem dX12_drop_28 : decode cX12_drop 28 = .ok (.iconst 1, 1) := by decide +kernel
theorem dX12_drop_29 : decode cX12_drop 29 = .ok (.isub, 1) := by decide +kernel
theorem dX12_drop_30 : decode cX12_drop 30 = .ok (.iastore, 1) := by decide +kernel
theorem dX12_drop_31 : decode cX12_drop 31 = .ok (.aload_n 0, 1) := by decide +kernel
theorem dX12_drop_32 : decode cX12_drop 32 = .ok (.getfield 23, 3) := by decide +kernel
theorem dX12_drop_35 : decode cX12_drop 35 = .ok (.iload_n 1, 1) := by decide +kernel
theorem dX12_drop_36 : decode cX12_drop 36 = .ok (.iaload, 1) := by decide +kernel
theorem dX12_drop_37 : decode cX12_drop 37 = .ok (.ireturn, 1) := by decide +kernel
theorem dX12_equivalence_0 : decode cX12_equivalence 0 = .ok (.iload_n 1, 1) := by decide +kernel
theorem dX12_equivalence_1 : decode cX12_equivalence 1 = .ok (.iconst (-1), 1) := by decide +kernel
theorem dX12_equivalence_2 : decode cX12_equivalence 2 = .ok (.if_icmp .ge 5, 3) := by decide +kernel
theorem dX12_equivalence_5 : decode cX12_equivalence 5 = .ok (.iconst (-1), 1) := by decide +kernel
theorem dX12_equivalence_6 : decode cX12_equivalence 6 = .ok (.ireturn, 1) := by decide +kernel
theorem dX12_equivalence_7 : decode cX12_equivalence 7 = .ok (.iconst 0, 1) := by decide +kernel
theorem dX12_equivalence_8 : decode cX12_equivalence 8 = .ok (.istore_n 2, 1) := by decide +kernel
theorem dX12_equivalence_9 : decode cX12_equivalence 9 = .ok (.iconst 0, 1) := by decide +kernel
theorem dX12_equivalence_10 : decode cX12_equivalence 10 = .ok (.istore_n 3, 1) := by decide +kernel
theorem dX12_equivalence_11 : decode cX12_equivalence 11 = .ok (.iload_n 3, 1) := by decide +kernel
theorem dX12_equivalence_12 : decode cX12_equivalence 12 = .ok (.iconst 1, 1) := by decide +kernel
theorem dX12_equivalence_13 : decode cX12_equivalence 13 = .ok (.aload_n 0, 1) := by decide +kernel
theorem dX12_equivalence_14 : decode cX12_equivalence 14 = .ok (.getfield 9, 3) := by decide +kernel
theorem dX12_equivalence_17 : decode cX12_equivalence 17 = .ok (.ishl, 1) := by decide +kernel
theorem dX12_equivalence_18 : decode cX12_equivalence 18 = .ok (.if_icmp .ge 27, 3) := by decide +kernel
theorem dX12_equivalence_21 : decode cX12_equivalence 21 = .ok (.aload_n 0, 1) := by decide +kernel
theorem dX12_equivalence_22 : decode cX12_equivalence 22 = .ok (.iload_n 3, 1) := by decide +kernel
theorem dX12_equivalence_23 : decode cX12_equivalence 23 = .ok (.invokevirtual 120, 3) := by decide +kernel
theorem dX12_equivalence_26 : decode cX12_equivalence 26 = .ok (.ifCond .eq 13, 3) := by decide +kernel
theorem dX12_equivalence_29 : decode cX12_equivalence 29 = .ok (.iload_n 2, 1) := by decide +kernel
theorem dX12_equivalence_30 : decode cX12_equivalence 30 = .ok (.iload_n 1, 1) := by decide +kernel
theorem dX12_equivalence_31 : decode cX12_equivalence 31 = .ok (.if_icmp .ne 5, 3) := by decide +kernel
theorem dX12_equivalence_34 : decode cX12_equivalence 34 = .ok (.iload_n 3, 1) := by decide +kernel
theorem dX12_equivalence_35 : decode cX12_equivalence 35 = .ok (.ireturn, 1) := by decide +kernel
theorem dX12_equivalence_36 : decode cX12_equivalence 36 = .ok (.iinc 2 1, 3) := by decide +kernel
theorem dX12_equivalence_39 : decode cX12_equivalence 39 = .ok (.iinc 3 1, 3) := by decide +kernel
theorem dX12_equivalence_42 : decode cX12_equivalence 42 = .ok (.goto (-31), 3) := by decide +kernel
theorem dX12_equivalence_45 : decode cX12_equivalence 45 = .ok (.iload_n 1, 1) := by decide +kernel
theorem dX12_equivalence_46 : decode cX12_equivalence 46 = .ok (.iconst (-1), 1) := by decide +kernel
theorem dX12_equivalence_47 : decode cX12_equivalence 47 = .ok (.if_icmp .ne 7, 3) := by decide +kernel
theorem dX12_equivalence_50 : decode cX12_equivalence 50 = .ok (.iload_n 2, 1) := by decide +kernel
theorem dX12_equivalence_51 : decode cX12_equivalence 51 = .ok (.goto 4, 3) := by decide +kernel
theorem dX12_equivalence_54 : decode cX12_equivalence 54 = .ok (.iconst (-1), 1) := by decide +kernel
theorem dX12_equivalence_55 : decode cX12_equivalence 55 = .ok (.ireturn, 1) := by decide +kernel
theorem dX12_falseStep_0 : decode cX12_falseStep 0 = .ok (.iconst 0, 1) := by decide +kernel
theorem dX12_falseStep_1 : decode cX12_falseStep 1 = .ok (.istore_n 1, 1) := by decide +kernel
theorem dX12_falseStep_2 : decode cX12_falseStep 2 = .ok (.iload_n 1, 1) := by decide +kernel
theorem dX12_falseStep_3 : decode cX12_falseStep 3 = .ok (.aload_n 0, 1) := by decide +kernel
theorem dX12_falseStep_4 : decode cX12_falseStep 4 = .ok (.getfield 235, 3) := by decide +kernel
theorem dX12_falseStep_7 : decode cX12_falseStep 7 = .ok (.if_icmp .ge 65, 3) := by decide +kernel
theorem dX12_falseStep_10 : decode cX12_falseStep 10 = .ok (.iconst 0, 1) := by decide +kernel
theorem dX12_falseStep_11 : decode cX12_falseStep 11 = .ok (.istore_n 2, 1) := by decide +kernel
theorem dX12_falseStep_12 : decode cX12_falseStep 12 = .ok (.iload_n 2, 1) := by decide +kernel
theorem dX12_falseStep_13 : decode cX12_falseStep 13 = .ok (.aload_n 0, 1) := by decide +kernel
theorem dX12_falseStep_14 : decode cX12_falseStep 14 = .ok (.getfield 9, 3) := by decide +kernel
theorem dX12_falseStep_17 : decode cX12_falseStep 17 = .ok (.if_icmp .ge 49, 3) := by decide +kernel
theorem dX12_falseStep_20 : decode cX12_falseStep 20 = .ok (.iconst 0, 1) := by decide +kernel
theorem dX12_falseStep_21 : decode cX12_falseStep 21 = .ok (.istore_n 3, 1) := by decide +kernel
theorem dX12_falseStep_22 : decode cX12_falseStep 22 = .ok (.iload_n 3, 1) := by decide +kernel
theorem dX12_falseStep_23 : decode cX12_falseStep 23 = .ok (.aload_n 0, 1) := by decide +kernel
theorem dX12_falseStep_24 : decode cX12_falseStep 24 = .ok (.getfield 9, 3) := by decide +kernel
theorem dX12_falseStep_27 : decode cX12_falseStep 27 = .ok (.if_icmp .ge 33, 3) := by decide +kernel
theorem dX12_falseStep_30 : decode cX12_falseStep 30 = .ok (.aload_n 0, 1) := by decide +kernel
theorem dX12_falseStep_31 : decode cX12_falseStep 31 = .ok (.iload_n 1, 1) := by decide +kernel
theorem dX12_falseStep_32 : decode cX12_falseStep 32 = .ok (.iload_n 2, 1) := by decide +kernel
theorem dX12_falseStep_33 : decode cX12_falseStep 33 = .ok (.iload_n 3, 1) := by decide +kernel
theorem dX12_falseStep_34 : decode cX12_falseStep 34 = .ok (.invokevirtual 238, 3) := by decide +kernel
theorem dX12_falseStep_37 : decode cX12_falseStep 37 = .ok (.aload_n 0, 1) := by decide +kernel
theorem dX12_falseStep_38 : decode cX12_falseStep 38 = .ok (.iload_n 2, 1) := by decide +kernel
theorem dX12_falseStep_39 : decode cX12_falseStep 39 = .ok (.iload_n 3, 1) := by decide +kernel
theorem dX12_falseStep_40 : decode cX12_falseStep 40 = .ok (.aload_n 0, 1) := by decide +kernel
theorem dX12_falseStep_41 : decode cX12_falseStep 41 = .ok (.getfield 32, 3) := by decide +kernel
theorem dX12_falseStep_44 : decode cX12_falseStep 44 = .ok (.iload_n 1, 1) := by decide +kernel
theorem dX12_falseStep_45 : decode cX12_falseStep 45 = .ok (.iaload, 1) := by decide +kernel
theorem dX12_falseStep_46 : decode cX12_falseStep 46 = .ok (.invokevirtual 105, 3) := by decide +kernel
theorem dX12_falseStep_49 : decode cX12_falseStep 49 = .ok (.if_icmp .eq 5, 3) := by decide +kernel
theorem dX12_falseStep_52 : decode cX12_falseStep 52 = .ok (.iload_n 1, 1) := by decide +kernel
theorem dX12_falseStep_53 : decode cX12_falseStep 53 = .ok (.ireturn, 1) := by decide +kernel
theorem dX12_falseStep_54 : decode cX12_falseStep 54 = .ok (.iinc 3 1, 3) := by decide +kernel
theorem dX12_falseStep_57 : decode cX12_falseStep 57 = .ok (.goto (-35), 3) := by decide +kernel
theorem dX12_falseStep_60 : decode cX12_falseStep 60 = .ok (.iinc 2 1, 3) := by decide +kernel
theorem dX12_falseStep_63 : decode cX12_falseStep 63 = .ok (.goto (-51), 3) := by decide +kernel
theorem dX12_falseStep_66 : decode cX12_falseStep 66 = .ok (.iinc 1 1, 3) := by decide +kernel
theorem dX12_falseStep_69 : decode cX12_falseStep 69 = .ok (.goto (-67), 3) := by decide +kernel
theorem dX12_falseStep_72 : decode cX12_falseStep 72 = .ok (.bipush (-5), 2) := by decide +kernel
theorem dX12_falseStep_74 : decode cX12_falseStep 74 = .ok (.ireturn, 1) := by decide +kernel
theorem dX12_feed_0 : decode cX12_feed 0 = .ok (.iload_n 1, 1) := by decide +kernel
theorem dX12_feed_1 : decode cX12_feed 1 = .ok (.i2l, 1) := by decide +kernel
theorem dX12_feed_2 : decode cX12_feed 2 = .ok (.ldc2_w 257, 3) := by decide +kernel
theorem dX12_feed_5 : decode cX12_feed 5 = .ok (.ldc2_w 259, 3) := by decide +kernel
theorem dX12_feed_8 : decode cX12_feed 8 = .ok (.invokestatic 70, 3) := by decide +kernel
theorem dX12_feed_11 : decode cX12_feed 11 = .ok (.ifCond .ne 6, 3) := by decide +kernel
theorem dX12_feed_14 : decode cX12_feed 14 = .ok (.bipush (-2), 2) := by decide +kernel
theorem dX12_feed_16 : decode cX12_feed 16 = .ok (.ireturn, 1) := by decide +kernel
theorem dX12_feed_17 : decode cX12_feed 17 = .ok (.aload_n 0, 1) := by decide +kernel
theorem dX12_feed_18 : decode cX12_feed 18 = .ok (.getfield 261, 3) := by decide +kernel
theorem dX12_feed_21 : decode cX12_feed 21 = .ok (.bipush 100, 2) := by decide +kernel
theorem dX12_feed_23 : decode cX12_feed 23 = .ok (.if_icmp .ne 6, 3) := by decide +kernel
theorem dX12_feed_26 : decode cX12_feed 26 = .ok (.bipush (-4), 2) := by decide +kernel
theorem dX12_feed_28 : decode cX12_feed 28 = .ok (.ireturn, 1) := by decide +kernel
theorem dX12_feed_29 : decode cX12_feed 29 = .ok (.aload_n 0, 1) := by decide +kernel
theorem dX12_feed_30 : decode cX12_feed 30 = .ok (.getfield 49, 3) := by decide +kernel
theorem dX12_feed_33 : decode cX12_feed 33 = .ok (.aload_n 0, 1) := by decide +kernel
theorem dX12_feed_34 : decode cX12_feed 34 = .ok (.getfield 261, 3) := by decide +kernel
theorem dX12_feed_37 : decode cX12_feed 37 = .ok (.iload_n 1, 1) := by decide +kernel
theorem dX12_feed_38 : decode cX12_feed 38 = .ok (.iastore, 1) := by decide +kernel
theorem dX12_feed_39 : decode cX12_feed 39 = .ok (.aload_n 0, 1) := by decide +kernel
theorem dX12_feed_40 : decode cX12_feed 40 = .ok (.dup, 1) := by decide +kernel
theorem dX12_feed_41 : decode cX12_feed 41 = .ok (.getfield 261, 3) := by decide +kernel
theorem dX12_feed_44 : decode cX12_feed 44 = .ok (.iconst 1, 1) := by decide +kernel
theorem dX12_feed_45 : decode cX12_feed 45 = .ok (.iadd, 1) := by decide +kernel
theorem dX12_feed_46 : decode cX12_feed 46 = .ok (.putfield 261, 3) := by decide +kernel
theorem dX12_feed_49 : decode cX12_feed 49 = .ok (.aload_n 0, 1) := by decide +kernel
theorem dX12_feed_50 : decode cX12_feed 50 = .ok (.getfield 261, 3) := by decide +kernel
theorem dX12_feed_53 : decode cX12_feed 53 = .ok (.ireturn, 1) := by decide +kernel
theorem dX12_fills_0 : decode cX12_fills 0 = .ok (.iload_n 1, 1) := by decide +kernel
theorem dX12_fills_1 : decode cX12_fills 1 = .ok (.invokestatic 145, 3) := by decide +kernel
theorem dX12_fills_4 : decode cX12_fills 4 = .ok (.ifCond .eq 8, 3) := by decide +kernel
theorem dX12_fills_7 : decode cX12_fills 7 = .ok (.iload_n 3, 1) := by decide +kernel
theorem dX12_fills_8 : decode cX12_fills 8 = .ok (.iconst (-1), 1) := by decide +kernel
theorem dX12_fills_9 : decode cX12_fills 9 = .ok (.if_icmp .ge 5, 3) := by decide +kernel
theorem dX12_fills_12 : decode cX12_fills 12 = .ok (.iconst (-1), 1) := by decide +kernel
theorem dX12_fills_13 : decode cX12_fills 13 = .ok (.ireturn, 1) := by decide +kernel
theorem dX12_fills_14 : decode cX12_fills 14 = .ok (.aload_n 0, 1) := by decide +kernel
theorem dX12_fills_15 : decode cX12_fills 15 = .ok (.iload_n 1, 1) := by decide +kernel
theorem dX12_fills_16 : decode cX12_fills 16 = .ok (.iload_n 2, 1) := by decide +kernel
theorem dX12_fills_17 : decode cX12_fills 17 = .ok (.invokevirtual 211, 3) := by decide +kernel
theorem dX12_fills_20 : decode cX12_fills 20 = .ok (.ifCond .ne 6, 3) := by decide +kernel
theorem dX12_fills_23 : decode cX12_fills 23 = .ok (.bipush (-2), 2) := by decide +kernel
theorem dX12_fills_25 : decode cX12_fills 25 = .ok (.ireturn, 1) := by decide +kernel
theorem dX12_fills_26 : decode cX12_fills 26 = .ok (.aload_n 0, 1) := by decide +kernel
theorem dX12_fills_27 : decode cX12_fills 27 = .ok (.iload_n 1, 1) := by decide +kernel
theorem dX12_fills_28 : decode cX12_fills 28 = .ok (.invokevirtual 164, 3) := by decide +kernel
theorem dX12_fills_31 : decode cX12_fills 31 = .ok (.bipush (-5), 2) := by decide +kernel
theorem dX12_fills_33 : decode cX12_fills 33 = .ok (.if_icmp .eq 6, 3) := by decide +kernel
theorem dX12_fills_36 : decode cX12_fills 36 = .ok (.bipush (-3), 2) := by decide +kernel
theorem dX12_fills_38 : decode cX12_fills 38 = .ok (.ireturn, 1) := by decide +kernel
theorem dX12_fills_39 : decode cX12_fills 39 = .ok (.aload_n 0, 1) := by decide +kernel
theorem dX12_fills_40 : decode cX12_fills 40 = .ok (.getfield 23, 3) := by decide +kernel
theorem dX12_fills_43 : decode cX12_fills 43 = .ok (.iload_n 1, 1) := by decide +kernel
theorem dX12_fills_44 : decode cX12_fills 44 = .ok (.iaload, 1) := by decide +kernel
theorem dX12_fills_45 : decode cX12_fills 45 = .ok (.bipush 6, 2) := by decide +kernel
theorem dX12_fills_47 : decode cX12_fills 47 = .ok (.if_icmp .ne 6, 3) := by decide +kernel
theorem dX12_fills_50 : decode cX12_fills 50 = .ok (.bipush (-4), 2) := by decide +kernel
theorem dX12_fills_52 : decode cX12_fills 52 = .ok (.ireturn, 1) := by decide +kernel
theorem dX12_fills_53 : decode cX12_fills 53 = .ok (.aload_n 0, 1) := by decide +kernel
theorem dX12_fills_54 : decode cX12_fills 54 = .ok (.iload_n 1, 1) := by decide +kernel
theorem dX12_fills_55 : decode cX12_fills 55 = .ok (.iload_n 2, 1) := by decide +kernel
theorem dX12_fills_56 : decode cX12_fills 56 = .ok (.iload_n 3, 1) := by decide +kernel
theorem dX12_fills_57 : decode cX12_fills 57 = .ok (.invokevirtual 214, 3) := by decide +kernel
theorem dX12_fills_60 : decode cX12_fills 60 = .ok (.iload_n 3, 1) := by decide +kernel
theorem dX12_fills_61 : decode cX12_fills 61 = .ok (.iconst (-1), 1) := by decide +kernel
theorem dX12_fills_62 : decode cX12_fills 62 = .ok (.if_icmp .ne 10, 3) := by decide +kernel
theorem dX12_fills_65 : decode cX12_fills 65 = .ok (.aload_n 0, 1) := by decide +kernel
theorem dX12_fills_66 : decode cX12_fills 66 = .ok (.getfield 174, 3) := by decide +kernel
theorem dX12_fills_69 : decode cX12_fills 69 = .ok (.goto 20, 3) := by decide +kernel
theorem dX12_fills_72 : decode cX12_fills 72 = .ok (.aload_n 0, 1) := by decide +kernel
theorem dX12_fills_73 : decode cX12_fills 73 = .ok (.getfield 180, 3) := by decide +kernel
theorem dX12_fills_76 : decode cX12_fills 76 = .ok (.bipush (-5), 2) := by decide +kernel
theorem dX12_fills_78 : decode cX12_fills 78 = .ok (.if_icmp .ne 7, 3) := by decide +kernel
theorem dX12_fills_81 : decode cX12_fills 81 = .ok (.iconst (-1), 1) := by decide +kernel
theorem dX12_fills_82 : decode cX12_fills 82 = .ok (.goto 7, 3) := by decide +kernel
theorem dX12_fills_85 : decode cX12_fills 85 = .ok (.aload_n 0, 1) := by decide +kernel
theorem dX12_fills_86 : decode cX12_fills 86 = .ok (.getfield 180, 3) := by decide +kernel
theorem dX12_fills_89 : decode cX12_fills 89 = .ok (.ireturn, 1) := by decide +kernel
theorem dX12_fillsFrom_0 : decode cX12_fillsFrom 0 = .ok (.aload_n 0, 1) := by decide +kernel
theorem dX12_fillsFrom_1 : decode cX12_fillsFrom 1 = .ok (.getfield 23, 3) := by decide +kernel
theorem dX12_fillsFrom_4 : decode cX12_fillsFrom 4 = .ok (.iconst 5, 1) := by decide +kernel
theorem dX12_fillsFrom_5 : decode cX12_fillsFrom 5 = .ok (.iaload, 1) := by decide +kernel
theorem dX12_fillsFrom_6 : decode cX12_fillsFrom 6 = .ok (.istore 6, 2) := by decide +kernel
theorem dX12_fillsFrom_8 : decode cX12_fillsFrom 8 = .ok (.iload_n 1, 1) := by decide +kernel
theorem dX12_fillsFrom_9 : decode cX12_fillsFrom 9 = .ok (.ifCond .ge 12, 3) := by decide +kernel
theorem dX12_fillsFrom_12 : decode cX12_fillsFrom 12 = .ok (.aload_n 0, 1) := by decide +kernel
theorem dX12_fillsFrom_13 : decode cX12_fillsFrom 13 = .ok (.iload 4, 2) := by decide +kernel
theorem dX12_fillsFrom_15 : decode cX12_fillsFrom 15 = .ok (.iload 5, 2) := by decide +kernel
theorem dX12_fillsFrom_17 : decode cX12_fillsFrom 17 = .ok (.invokevirtual 193, 3) := by decide +kernel
theorem dX12_fillsFrom_20 : decode cX12_fillsFrom 20 = .ok (.ireturn, 1) := by decide +kernel
theorem dX12_fillsFrom_21 : decode cX12_fillsFrom 21 = .ok (.iload_n 2, 1) := by decide +kernel
theorem dX12_fillsFrom_22 : decode cX12_fillsFrom 22 = .ok (.sipush 1000, 3) := by decide +kernel
theorem dX12_fillsFrom_25 : decode cX12_fillsFrom 25 = .ok (.idiv, 1) := by decide +kernel
theorem dX12_fillsFrom_26 : decode cX12_fillsFrom 26 = .ok (.istore 7, 2) := by decide +kernel
theorem dX12_fillsFrom_28 : decode cX12_fillsFrom 28 = .ok (.iload_n 2, 1) := by decide +kernel
theorem dX12_fillsFrom_29 : decode cX12_fillsFrom 29 = .ok (.bipush 100, 2) := by decide +kernel
theorem dX12_fillsFrom_31 : decode cX12_fillsFrom 31 = .ok (.idiv, 1) := by decide +kernel
theorem dX12_fillsFrom_32 : decode cX12_fillsFrom 32 = .ok (.bipush 10, 2) := by decide +kernel
theorem dX12_fillsFrom_34 : decode cX12_fillsFrom 34 = .ok (.irem, 1) := by decide +kernel
theorem dX12_fillsFrom_35 : decode cX12_fillsFrom 35 = .ok (.istore 8, 2) := by decide +kernel
theorem dX12_fillsFrom_37 : decode cX12_fillsFrom 37 = .ok (.iload_n 2, 1) := by decide +kernel
theorem dX12_fillsFrom_38 : decode cX12_fillsFrom 38 = .ok (.bipush 10, 2) := by decide +kernel
theorem dX12_fillsFrom_40 : decode cX12_fillsFrom 40 = .ok (.idiv, 1) := by decide +kernel
theorem dX12_fillsFrom_41 : decode cX12_fillsFrom 41 = .ok (.bipush 10, 2) := by decide +kernel
theorem dX12_fillsFrom_43 : decode cX12_fillsFrom 43 = .ok (.irem, 1) := by decide +kernel
theorem dX12_fillsFrom_44 : decode cX12_fillsFrom 44 = .ok (.istore 9, 2) := by decide +kernel
theorem dX12_fillsFrom_46 : decode cX12_fillsFrom 46 = .ok (.aload_n 0, 1) := by decide +kernel
theorem dX12_fillsFrom_47 : decode cX12_fillsFrom 47 = .ok (.getfield 15, 3) := by decide +kernel
theorem dX12_fillsFrom_50 : decode cX12_fillsFrom 50 = .ok (.iload_n 2, 1) := by decide +kernel
theorem dX12_fillsFrom_51 : decode cX12_fillsFrom 51 = .ok (.bipush 10, 2) := by decide +kernel
theorem dX12_fillsFrom_53 : decode cX12_fillsFrom 53 = .ok (.irem, 1) := by decide +kernel
theorem dX12_fillsFrom_54 : decode cX12_fillsFrom 54 = .ok (.iaload, 1) := by decide +kernel
theorem dX12_fillsFrom_55 : decode cX12_fillsFrom 55 = .ok (.istore 10, 2) := by decide +kernel
theorem dX12_fillsFrom_57 : decode cX12_fillsFrom 57 = .ok (.iconst 1, 1) := by decide +kernel
theorem dX12_fillsFrom_58 : decode cX12_fillsFrom 58 = .ok (.istore 11, 2) := by decide +kernel
theorem dX12_fillsFrom_60 : decode cX12_fillsFrom 60 = .ok (.iload 11, 2) := by decide +kernel
theorem dX12_fillsFrom_62 : decode cX12_fillsFrom 62 = .ok (.aload_n 0, 1) := by decide +kernel
theorem dX12_fillsFrom_63 : decode cX12_fillsFrom 63 = .ok (.getfield 9, 3) := by decide +kernel
theorem dX12_fillsFrom_66 : decode cX12_fillsFrom 66 = .ok (.if_icmp .ge 93, 3) := by decide +kernel
theorem dX12_fillsFrom_69 : decode cX12_fillsFrom 69 = .ok (.iload_n 1, 1) := by decide +kernel
theorem dX12_fillsFrom_70 : decode cX12_fillsFrom 70 = .ok (.iload 7, 2) := by decide +kernel
theorem dX12_fillsFrom_72 : decode cX12_fillsFrom 72 = .ok (.if_icmp .ne 10, 3) := by decide +kernel
theorem dX12_fillsFrom_75 : decode cX12_fillsFrom 75 = .ok (.iload 11, 2) := by decide +kernel
theorem dX12_fillsFrom_77 : decode cX12_fillsFrom 77 = .ok (.iload 9, 2) := by decide +kernel
theorem dX12_fillsFrom_79 : decode cX12_fillsFrom 79 = .ok (.if_icmp .ne 20, 3) := by decide +kernel
theorem dX12_fillsFrom_82 : decode cX12_fillsFrom 82 = .ok (.iload_n 1, 1) := by decide +kernel
theorem dX12_fillsFrom_83 : decode cX12_fillsFrom 83 = .ok (.iload 8, 2) := by decide +kernel
theorem dX12_fillsFrom_85 : decode cX12_fillsFrom 85 = .ok (.if_icmp .ne 10, 3) := by decide +kernel
theorem dX12_fillsFrom_88 : decode cX12_fillsFrom 88 = .ok (.iload 11, 2) := by decide +kernel
theorem dX12_fillsFrom_90 : decode cX12_fillsFrom 90 = .ok (.iload 10, 2) := by decide +kernel
theorem dX12_fillsFrom_92 : decode cX12_fillsFrom 92 = .ok (.if_icmp .ne 7, 3) := by decide +kernel
theorem dX12_fillsFrom_95 : decode cX12_fillsFrom 95 = .ok (.iconst 1, 1) := by decide +kernel
theorem dX12_fillsFrom_96 : decode cX12_fillsFrom 96 = .ok (.goto 4, 3) := by decide +kernel
theorem dX12_fillsFrom_99 : decode cX12_fillsFrom 99 = .ok (.iconst 0, 1) := by decide +kernel
theorem dX12_fillsFrom_100 : decode cX12_fillsFrom 100 = .ok (.istore 12, 2) := by decide +kernel
theorem dX12_fillsFrom_102 : decode cX12_fillsFrom 102 = .ok (.iload 12, 2) := by decide +kernel
theorem dX12_fillsFrom_104 : decode cX12_fillsFrom 104 = .ok (.ifCond .eq 49, 3) := by decide +kernel
theorem dX12_fillsFrom_107 : decode cX12_fillsFrom 107 = .ok (.aload_n 0, 1) := by decide +kernel
theorem dX12_fillsFrom_108 : decode cX12_fillsFrom 108 = .ok (.iload_n 1, 1) := by decide +kernel
theorem dX12_fillsFrom_109 : decode cX12_fillsFrom 109 = .ok (.iload 11, 2) := by decide +kernel
theorem dX12_fillsFrom_111 : decode cX12_fillsFrom 111 = .ok (.invokevirtual 196, 3) := by decide +kernel
theorem dX12_fillsFrom_114 : decode cX12_fillsFrom 114 = .ok (.ifCond .eq 39, 3) := by decide +kernel
theorem dX12_fillsFrom_117 : decode cX12_fillsFrom 117 = .ok (.aload_n 0, 1) := by decide +kernel
theorem dX12_fillsFrom_118 : decode cX12_fillsFrom 118 = .ok (.iconst 5, 1) := by decide +kernel
theorem dX12_fillsFrom_119 : decode cX12_fillsFrom 119 = .ok (.iload_n 1, 1) := by decide +kernel
theorem dX12_fillsFrom_120 : decode cX12_fillsFrom 120 = .ok (.iload 6, 2) := by decide +kernel
theorem dX12_fillsFrom_122 : decode cX12_fillsFrom 122 = .ok (.iload 11, 2) := by decide +kernel
theorem dX12_fillsFrom_124 : decode cX12_fillsFrom 124 = .ok (.invokevirtual 141, 3) := by decide +kernel
theorem dX12_fillsFrom_127 : decode cX12_fillsFrom 127 = .ok (.aload_n 0, 1) := by decide +kernel
theorem dX12_fillsFrom_128 : decode cX12_fillsFrom 128 = .ok (.iload_n 1, 1) := by decide +kernel
theorem dX12_fillsFrom_129 : decode cX12_fillsFrom 129 = .ok (.iconst 1, 1) := by decide +kernel
theorem dX12_fillsFrom_130 : decode cX12_fillsFrom 130 = .ok (.isub, 1) := by decide +kernel
theorem dX12_fillsFrom_131 : decode cX12_fillsFrom 131 = .ok (.iload_n 2, 1) := by decide +kernel
theorem dX12_fillsFrom_132 : decode cX12_fillsFrom 132 = .ok (.iload_n 3, 1) := by decide +kernel
theorem dX12_fillsFrom_133 : decode cX12_fillsFrom 133 = .ok (.bipush 10, 2) := by decide +kernel
theorem dX12_fillsFrom_135 : decode cX12_fillsFrom 135 = .ok (.idiv, 1) := by decide +kernel
theorem dX12_fillsFrom_136 : decode cX12_fillsFrom 136 = .ok (.iload 4, 2) := by decide +kernel
theorem dX12_fillsFrom_138 : decode cX12_fillsFrom 138 = .ok (.iload_n 3, 1) := by decide +kernel
theorem dX12_fillsFrom_139 : decode cX12_fillsFrom 139 = .ok (.iload 11, 2) := by decide +kernel
theorem dX12_fillsFrom_141 : decode cX12_fillsFrom 141 = .ok (.imul, 1) := by decide +kernel
theorem dX12_fillsFrom_142 : decode cX12_fillsFrom 142 = .ok (.iadd, 1) := by decide +kernel
theorem dX12_fillsFrom_143 : decode cX12_fillsFrom 143 = .ok (.iload 5, 2) := by decide +kernel
theorem dX12_fillsFrom_145 : decode cX12_fillsFrom 145 = .ok (.invokevirtual 199, 3) := by decide +kernel
theorem dX12_fillsFrom_148 : decode cX12_fillsFrom 148 = .ok (.ifCond .eq 5, 3) := by decide +kernel
theorem dX12_fillsFrom_151 : decode cX12_fillsFrom 151 = .ok (.iconst 1, 1) := by decide +kernel
theorem dX12_fillsFrom_152 : decode cX12_fillsFrom 152 = .ok (.ireturn, 1) := by decide +kernel
theorem dX12_fillsFrom_153 : decode cX12_fillsFrom 153 = .ok (.iinc 11 1, 3) := by decide +kernel
theorem dX12_fillsFrom_156 : decode cX12_fillsFrom 156 = .ok (.goto (-96), 3) := by decide +kernel
theorem dX12_fillsFrom_159 : decode cX12_fillsFrom 159 = .ok (.iconst 0, 1) := by decide +kernel
theorem dX12_fillsFrom_160 : decode cX12_fillsFrom 160 = .ok (.ireturn, 1) := by decide +kernel
theorem dX12_fixes_0 : decode cX12_fixes 0 = .ok (.iconst 0, 1) := by decide +kernel
theorem dX12_fixes_1 : decode cX12_fixes 1 = .ok (.istore_n 1, 1) := by decide +kernel
theorem dX12_fixes_2 : decode cX12_fixes 2 = .ok (.iload_n 1, 1) := by decide +kernel
theorem dX12_fixes_3 : decode cX12_fixes 3 = .ok (.iconst 4, 1) := by decide +kernel
theorem dX12_fixes_4 : decode cX12_fixes 4 = .ok (.if_icmp .ge 107, 3) := by decide +kernel
theorem dX12_fixes_7 : decode cX12_fixes 7 = .ok (.iconst 0, 1) := by decide +kernel
theorem dX12_fixes_8 : decode cX12_fixes 8 = .ok (.istore_n 2, 1) := by decide +kernel
theorem dX12_fixes_9 : decode cX12_fixes 9 = .ok (.iload_n 2, 1) := by decide +kernel
theorem dX12_fixes_10 : decode cX12_fixes 10 = .ok (.iconst 4, 1) := by decide +kernel
theorem dX12_fixes_11 : decode cX12_fixes 11 = .ok (.if_icmp .ge 94, 3) := by decide +kernel
theorem dX12_fixes_14 : decode cX12_fixes 14 = .ok (.iconst 0, 1) := by decide +kernel
theorem dX12_fixes_15 : decode cX12_fixes 15 = .ok (.istore_n 3, 1) := by decide +kernel
theorem dX12_fixes_16 : decode cX12_fixes 16 = .ok (.iload_n 3, 1) := by decide +kernel
theorem dX12_fixes_17 : decode cX12_fixes 17 = .ok (.iconst 4, 1) := by decide +kernel
theorem dX12_fixes_18 : decode cX12_fixes 18 = .ok (.if_icmp .ge 81, 3) := by decide +kernel
theorem dX12_fixes_21 : decode cX12_fixes 21 = .ok (.iload_n 1, 1) := by decide +kernel
theorem dX12_fixes_22 : decode cX12_fixes 22 = .ok (.ifCond .ne 16, 3) := by decide +kernel
theorem dX12_fixes_25 : decode cX12_fixes 25 = .ok (.iload_n 2, 1) := by decide +kernel
theorem dX12_fixes_26 : decode cX12_fixes 26 = .ok (.iload_n 3, 1) := by decide +kernel
theorem dX12_fixes_27 : decode cX12_fixes 27 = .ok (.if_icmp .ne 7, 3) := by decide +kernel
theorem dX12_fixes_30 : decode cX12_fixes 30 = .ok (.iconst 1, 1) := by decide +kernel
theorem dX12_fixes_31 : decode cX12_fixes 31 = .ok (.goto 43, 3) := by decide +kernel
theorem dX12_fixes_34 : decode cX12_fixes 34 = .ok (.iconst 0, 1) := by decide +kernel
theorem dX12_fixes_35 : decode cX12_fixes 35 = .ok (.goto 39, 3) := by decide +kernel
theorem dX12_fixes_38 : decode cX12_fixes 38 = .ok (.iload_n 2, 1) := by decide +kernel
theorem dX12_fixes_39 : decode cX12_fixes 39 = .ok (.ifCond .ne 16, 3) := by decide +kernel
theorem dX12_fixes_42 : decode cX12_fixes 42 = .ok (.iload_n 1, 1) := by decide +kernel
theorem dX12_fixes_43 : decode cX12_fixes 43 = .ok (.iload_n 3, 1) := by decide +kernel
theorem dX12_fixes_44 : decode cX12_fixes 44 = .ok (.if_icmp .ne 7, 3) := by decide +kernel
theorem dX12_fixes_47 : decode cX12_fixes 47 = .ok (.iconst 1, 1) := by decide +kernel
theorem dX12_fixes_48 : decode cX12_fixes 48 = .ok (.goto 26, 3) := by decide +kernel
theorem dX12_fixes_51 : decode cX12_fixes 51 = .ok (.iconst 0, 1) := by decide +kernel
theorem dX12_fixes_52 : decode cX12_fixes 52 = .ok (.goto 22, 3) := by decide +kernel
theorem dX12_fixes_55 : decode cX12_fixes 55 = .ok (.iload_n 3, 1) := by decide +kernel
theorem dX12_fixes_56 : decode cX12_fixes 56 = .ok (.ifCond .ne 17, 3) := by decide +kernel
theorem dX12_fixes_59 : decode cX12_fixes 59 = .ok (.iload_n 2, 1) := by decide +kernel
theorem dX12_fixes_60 : decode cX12_fixes 60 = .ok (.aload_n 0, 1) := by decide +kernel
theorem dX12_fixes_61 : decode cX12_fixes 61 = .ok (.getfield 15, 3) := by decide +kernel
theorem dX12_fixes_64 : decode cX12_fixes 64 = .ok (.iload_n 1, 1) := by decide +kernel
theorem dX12_fixes_65 : decode cX12_fixes 65 = .ok (.iaload, 1) := by decide +kernel
theorem dX12_fixes_66 : decode cX12_fixes 66 = .ok (.if_icmp .ne 7, 3) := by decide +kernel
theorem dX12_fixes_69 : decode cX12_fixes 69 = .ok (.iconst 1, 1) := by decide +kernel
theorem dX12_fixes_70 : decode cX12_fixes 70 = .ok (.goto 4, 3) := by decide +kernel
theorem dX12_fixes_73 : decode cX12_fixes 73 = .ok (.iconst 0, 1) := by decide +kernel
theorem dX12_fixes_74 : decode cX12_fixes 74 = .ok (.istore 4, 2) := by decide +kernel
theorem dX12_fixes_76 : decode cX12_fixes 76 = .ok (.aload_n 0, 1) := by decide +kernel
theorem dX12_fixes_77 : decode cX12_fixes 77 = .ok (.getfield 19, 3) := by decide +kernel
theorem dX12_fixes_80 : decode cX12_fixes 80 = .ok (.bipush 16, 2) := by decide +kernel
theorem dX12_fixes_82 : decode cX12_fixes 82 = .ok (.iload_n 1, 1) := by decide +kernel
theorem dX12_fixes_83 : decode cX12_fixes 83 = .ok (.imul, 1) := by decide +kernel
theorem dX12_fixes_84 : decode cX12_fixes 84 = .ok (.iconst 4, 1) := by decide +kernel
theorem dX12_fixes_85 : decode cX12_fixes 85 = .ok (.iload_n 2, 1) := by decide +kernel
theorem dX12_fixes_86 : decode cX12_fixes 86 = .ok (.imul, 1) := by decide +kernel
theorem dX12_fixes_87 : decode cX12_fixes 87 = .ok (.iadd, 1) := by decide +kernel
theorem dX12_fixes_88 : decode cX12_fixes 88 = .ok (.iload_n 3, 1) := by decide +kernel
theorem dX12_fixes_89 : decode cX12_fixes 89 = .ok (.iadd, 1) := by decide +kernel
theorem dX12_fixes_90 : decode cX12_fixes 90 = .ok (.iload 4, 2) := by decide +kernel
theorem dX12_fixes_92 : decode cX12_fixes 92 = .ok (.bastore, 1) := by decide +kernel
theorem dX12_fixes_93 : decode cX12_fixes 93 = .ok (.iinc 3 1, 3) := by decide +kernel
theorem dX12_fixes_96 : decode cX12_fixes 96 = .ok (.goto (-80), 3) := by decide +kernel
theorem dX12_fixes_99 : decode cX12_fixes 99 = .ok (.iinc 2 1, 3) := by decide +kernel
theorem dX12_fixes_102 : decode cX12_fixes 102 = .ok (.goto (-93), 3) := by decide +kernel
theorem dX12_fixes_105 : decode cX12_fixes 105 = .ok (.iinc 1 1, 3) := by decide +kernel
theorem dX12_fixes_108 : decode cX12_fixes 108 = .ok (.goto (-106), 3) := by decide +kernel
theorem dX12_fixes_111 : decode cX12_fixes 111 = .ok (.iconst 0, 1) := by decide +kernel
theorem dX12_fixes_112 : decode cX12_fixes 112 = .ok (.istore_n 1, 1) := by decide +kernel
theorem dX12_fixes_113 : decode cX12_fixes 113 = .ok (.iload_n 1, 1) := by decide +kernel
theorem dX12_fixes_114 : decode cX12_fixes 114 = .ok (.bipush 6, 2) := by decide +kernel
theorem dX12_fixes_116 : decode cX12_fixes 116 = .ok (.if_icmp .ge 16, 3) := by decide +kernel
theorem dX12_fixes_119 : decode cX12_fixes 119 = .ok (.aload_n 0, 1) := by decide +kernel
theorem dX12_fixes_120 : decode cX12_fixes 120 = .ok (.getfield 23, 3) := by decide +kernel
theorem dX12_fixes_123 : decode cX12_fixes 123 = .ok (.iload_n 1, 1) := by decide +kernel
theorem dX12_fixes_124 : decode cX12_fixes 124 = .ok (.iconst 0, 1) := by decide +kernel
theorem dX12_fixes_125 : decode cX12_fixes 125 = .ok (.iastore, 1) := by decide +kernel
theorem dX12_fixes_126 : decode cX12_fixes 126 = .ok (.iinc 1 1, 3) := by decide +kernel
theorem dX12_fixes_129 : decode cX12_fixes 129 = .ok (.goto (-16), 3) := by decide +kernel
theorem dX12_fixes_132 : decode cX12_fixes 132 = .ok (.aload_n 0, 1) := by decide +kernel
theorem dX12_fixes_133 : decode cX12_fixes 133 = .ok (.iconst 0, 1) := by decide +kernel
theorem dX12_fixes_134 : decode cX12_fixes 134 = .ok (.putfield 74, 3) := by decide +kernel
theorem dX12_fixes_137 : decode cX12_fixes 137 = .ok (.aload_n 0, 1) := by decide +kernel
theorem dX12_fixes_138 : decode cX12_fixes 138 = .ok (.iconst 0, 1) := by decide +kernel
theorem dX12_fixes_139 : decode cX12_fixes 139 = .ok (.putfield 78, 3) := by decide +kernel
theorem dX12_fixes_142 : decode cX12_fixes 142 = .ok (.return_, 1) := by decide +kernel
theorem dX12_forbid_0 : decode cX12_forbid 0 = .ok (.iload_n 1, 1) := by decide +kernel
theorem dX12_forbid_1 : decode cX12_forbid 1 = .ok (.iconst (-1), 1) := by decide +kernel
theorem dX12_forbid_2 : decode cX12_forbid 2 = .ok (.if_icmp .eq 12, 3) := by decide +kernel
theorem dX12_forbid_5 : decode cX12_forbid 5 = .ok (.iload_n 1, 1) := by decide +kernel
theorem dX12_forbid_6 : decode cX12_forbid 6 = .ok (.invokestatic 145, 3) := by decide +kernel
theorem dX12_forbid_9 : decode cX12_forbid 9 = .ok (.ifCond .ne 5, 3) := by decide +kernel
theorem dX12_forbid_12 : decode cX12_forbid 12 = .ok (.iconst (-1), 1) := by decide +kernel
theorem dX12_forbid_13 : decode cX12_forbid 13 = .ok (.ireturn, 1) := by decide +kernel
theorem dX12_forbid_14 : decode cX12_forbid 14 = .ok (.aload_n 0, 1) := by decide +kernel
theorem dX12_forbid_15 : decode cX12_forbid 15 = .ok (.getfield 74, 3) := by decide +kernel
theorem dX12_forbid_18 : decode cX12_forbid 18 = .ok (.ifCond .eq 12, 3) := by decide +kernel
theorem dX12_forbid_21 : decode cX12_forbid 21 = .ok (.aload_n 0, 1) := by decide +kernel
theorem dX12_forbid_22 : decode cX12_forbid 22 = .ok (.getfield 23, 3) := by decide +kernel
theorem dX12_forbid_25 : decode cX12_forbid 25 = .ok (.iconst 3, 1) := by decide +kernel
theorem dX12_forbid_26 : decode cX12_forbid 26 = .ok (.iaload, 1) := by decide +kernel
theorem dX12_forbid_27 : decode cX12_forbid 27 = .ok (.goto 5, 3) := by decide +kernel
theorem dX12_forbid_30 : decode cX12_forbid 30 = .ok (.bipush (-5), 2) := by decide +kernel
theorem dX12_forbid_32 : decode cX12_forbid 32 = .ok (.istore_n 2, 1) := by decide +kernel
theorem dX12_forbid_33 : decode cX12_forbid 33 = .ok (.aload_n 0, 1) := by decide +kernel
theorem dX12_forbid_34 : decode cX12_forbid 34 = .ok (.iload_n 1, 1) := by decide +kernel
theorem dX12_forbid_35 : decode cX12_forbid 35 = .ok (.iconst (-1), 1) := by decide +kernel
theorem dX12_forbid_36 : decode cX12_forbid 36 = .ok (.if_icmp .eq 7, 3) := by decide +kernel
theorem dX12_forbid_39 : decode cX12_forbid 39 = .ok (.iconst 1, 1) := by decide +kernel
theorem dX12_forbid_40 : decode cX12_forbid 40 = .ok (.goto 4, 3) := by decide +kernel
theorem dX12_forbid_43 : decode cX12_forbid 43 = .ok (.iconst 0, 1) := by decide +kernel
theorem dX12_forbid_44 : decode cX12_forbid 44 = .ok (.putfield 74, 3) := by decide +kernel
theorem dX12_forbid_47 : decode cX12_forbid 47 = .ok (.aload_n 0, 1) := by decide +kernel
theorem dX12_forbid_48 : decode cX12_forbid 48 = .ok (.getfield 23, 3) := by decide +kernel
theorem dX12_forbid_51 : decode cX12_forbid 51 = .ok (.iconst 3, 1) := by decide +kernel
theorem dX12_forbid_52 : decode cX12_forbid 52 = .ok (.iconst 0, 1) := by decide +kernel
theorem dX12_forbid_53 : decode cX12_forbid 53 = .ok (.iastore, 1) := by decide +kernel
theorem dX12_forbid_54 : decode cX12_forbid 54 = .ok (.aload_n 0, 1) := by decide +kernel
theorem dX12_forbid_55 : decode cX12_forbid 55 = .ok (.getfield 74, 3) := by decide +kernel
theorem dX12_forbid_58 : decode cX12_forbid 58 = .ok (.ifCond .eq 9, 3) := by decide +kernel
theorem dX12_forbid_61 : decode cX12_forbid 61 = .ok (.aload_n 0, 1) := by decide +kernel
theorem dX12_forbid_62 : decode cX12_forbid 62 = .ok (.iload_n 1, 1) := by decide +kernel
theorem dX12_forbid_63 : decode cX12_forbid 63 = .ok (.iconst 3, 1) := by decide +kernel
theorem dX12_forbid_64 : decode cX12_forbid 64 = .ok (.invokevirtual 161, 3) := by decide +kernel
theorem dX12_forbid_67 : decode cX12_forbid 67 = .ok (.iload_n 2, 1) := by decide +kernel
theorem dX12_forbid_68 : decode cX12_forbid 68 = .ok (.ireturn, 1) := by decide +kernel
theorem dX12_found_0 : decode cX12_found 0 = .ok (.iload_n 1, 1) := by decide +kernel
theorem dX12_found_1 : decode cX12_found 1 = .ok (.invokestatic 241, 3) := by decide +kernel
theorem dX12_found_4 : decode cX12_found 4 = .ok (.ifCond .ne 5, 3) := by decide +kernel
theorem dX12_found_7 : decode cX12_found 7 = .ok (.iconst (-1), 1) := by decide +kernel
theorem dX12_found_8 : decode cX12_found 8 = .ok (.ireturn, 1) := by decide +kernel
theorem dX12_found_9 : decode cX12_found 9 = .ok (.aload_n 0, 1) := by decide +kernel
theorem dX12_found_10 : decode cX12_found 10 = .ok (.getfield 32, 3) := by decide +kernel
theorem dX12_found_13 : decode cX12_found 13 = .ok (.iconst 0, 1) := by decide +kernel
theorem dX12_found_14 : decode cX12_found 14 = .ok (.iconst 0, 1) := by decide +kernel
theorem dX12_found_15 : decode cX12_found 15 = .ok (.iastore, 1) := by decide +kernel
theorem dX12_found_16 : decode cX12_found 16 = .ok (.aload_n 0, 1) := by decide +kernel
theorem dX12_found_17 : decode cX12_found 17 = .ok (.iconst 2, 1) := by decide +kernel
theorem dX12_found_18 : decode cX12_found 18 = .ok (.putfield 235, 3) := by decide +kernel
theorem dX12_found_21 : decode cX12_found 21 = .ok (.aload_n 0, 1) := by decide +kernel
theorem dX12_found_22 : decode cX12_found 22 = .ok (.getfield 235, 3) := by decide +kernel
theorem dX12_found_25 : decode cX12_found 25 = .ok (.bipush 13, 2) := by decide +kernel
theorem dX12_found_27 : decode cX12_found 27 = .ok (.if_icmp .gt 77, 3) := by decide +kernel
theorem dX12_found_30 : decode cX12_found 30 = .ok (.aload_n 0, 1) := by decide +kernel
theorem dX12_found_31 : decode cX12_found 31 = .ok (.iconst 1, 1) := by decide +kernel
theorem dX12_found_32 : decode cX12_found 32 = .ok (.invokevirtual 252, 3) := by decide +kernel
theorem dX12_found_35 : decode cX12_found 35 = .ok (.ifCond .eq 56, 3) := by decide +kernel
theorem dX12_found_38 : decode cX12_found 38 = .ok (.aload_n 0, 1) := by decide +kernel
theorem dX12_found_39 : decode cX12_found 39 = .ok (.getfield 35, 3) := by decide +kernel
theorem dX12_found_42 : decode cX12_found 42 = .ok (.iload_n 1, 1) := by decide +kernel
theorem dX12_found_43 : decode cX12_found 43 = .ok (.aload_n 0, 1) := by decide +kernel
theorem dX12_found_44 : decode cX12_found 44 = .ok (.getfield 235, 3) := by decide +kernel
theorem dX12_found_47 : decode cX12_found 47 = .ok (.iconst 1, 1) := by decide +kernel
theorem dX12_found_48 : decode cX12_found 48 = .ok (.isub, 1) := by decide +kernel
theorem dX12_found_49 : decode cX12_found 49 = .ok (.iastore, 1) := by decide +kernel
theorem dX12_found_50 : decode cX12_found 50 = .ok (.iconst 1, 1) := by decide +kernel
theorem dX12_found_51 : decode cX12_found 51 = .ok (.istore_n 2, 1) := by decide +kernel
theorem dX12_found_52 : decode cX12_found 52 = .ok (.iload_n 2, 1) := by decide +kernel
theorem dX12_found_53 : decode cX12_found 53 = .ok (.aload_n 0, 1) := by decide +kernel
theorem dX12_found_54 : decode cX12_found 54 = .ok (.getfield 235, 3) := by decide +kernel
theorem dX12_found_57 : decode cX12_found 57 = .ok (.if_icmp .ge 29, 3) := by decide +kernel
theorem dX12_found_60 : decode cX12_found 60 = .ok (.aload_n 0, 1) := by decide +kernel
theorem dX12_found_61 : decode cX12_found 61 = .ok (.getfield 38, 3) := by decide +kernel
theorem dX12_found_64 : decode cX12_found 64 = .ok (.bipush 12, 2) := by decide +kernel
theorem dX12_found_66 : decode cX12_found 66 = .ok (.iload_n 1, 1) := by decide +kernel
theorem dX12_found_67 : decode cX12_found 67 = .ok (.imul, 1) := by decide +kernel
theorem dX12_found_68 : decode cX12_found 68 = .ok (.iload_n 2, 1) := by decide +kernel
theorem dX12_found_69 : decode cX12_found 69 = .ok (.iadd, 1) := by decide +kernel
theorem dX12_found_70 : decode cX12_found 70 = .ok (.iconst 1, 1) := by decide +kernel
theorem dX12_found_71 : decode cX12_found 71 = .ok (.isub, 1) := by decide +kernel
theorem dX12_found_72 : decode cX12_found 72 = .ok (.aload_n 0, 1) := by decide +kernel
theorem dX12_found_73 : decode cX12_found 73 = .ok (.getfield 32, 3) := by decide +kernel
theorem dX12_found_76 : decode cX12_found 76 = .ok (.iload_n 2, 1) := by decide +kernel
theorem dX12_found_77 : decode cX12_found 77 = .ok (.iaload, 1) := by decide +kernel
theorem dX12_found_78 : decode cX12_found 78 = .ok (.i2l, 1) := by decide +kernel
theorem dX12_found_79 : decode cX12_found 79 = .ok (.lastore, 1) := by decide +kernel
theorem dX12_found_80 : decode cX12_found 80 = .ok (.iinc 2 1, 3) := by decide +kernel
theorem dX12_found_83 : decode cX12_found 83 = .ok (.goto (-31), 3) := by decide +kernel
theorem dX12_found_86 : decode cX12_found 86 = .ok (.aload_n 0, 1) := by decide +kernel
theorem dX12_found_87 : decode cX12_found 87 = .ok (.getfield 235, 3) := by decide +kernel
theorem dX12_found_90 : decode cX12_found 90 = .ok (.ireturn, 1) := by decide +kernel
theorem dX12_found_91 : decode cX12_found 91 = .ok (.aload_n 0, 1) := by decide +kernel
theorem dX12_found_92 : decode cX12_found 92 = .ok (.dup, 1) := by decide +kernel
theorem dX12_found_93 : decode cX12_found 93 = .ok (.getfield 235, 3) := by decide +kernel
theorem dX12_found_96 : decode cX12_found 96 = .ok (.iconst 1, 1) := by decide +kernel
theorem dX12_found_97 : decode cX12_found 97 = .ok (.iadd, 1) := by decide +kernel
theorem dX12_found_98 : decode cX12_found 98 = .ok (.putfield 235, 3) := by decide +kernel
theorem dX12_found_101 : decode cX12_found 101 = .ok (.goto (-80), 3) := by decide +kernel
theorem dX12_found_104 : decode cX12_found 104 = .ok (.bipush (-5), 2) := by decide +kernel
theorem dX12_found_106 : decode cX12_found 106 = .ok (.ireturn, 1) := by decide +kernel
theorem dX12_gap_0 : decode cX12_gap 0 = .ok (.iload_n 1, 1) := by decide +kernel
theorem dX12_gap_1 : decode cX12_gap 1 = .ok (.invokestatic 145, 3) := by decide +kernel
theorem dX12_gap_4 : decode cX12_gap 4 = .ok (.ifCond .eq 8, 3) := by decide +kernel
theorem dX12_gap_7 : decode cX12_gap 7 = .ok (.iload_n 2, 1) := by decide +kernel
theorem dX12_gap_8 : decode cX12_gap 8 = .ok (.iconst (-1), 1) := by decide +kernel
theorem dX12_gap_9 : decode cX12_gap 9 = .ok (.if_icmp .ge 5, 3) := by decide +kernel
theorem dX12_gap_12 : decode cX12_gap 12 = .ok (.iconst (-1), 1) := by decide +kernel
theorem dX12_gap_13 : decode cX12_gap 13 = .ok (.ireturn, 1) := by decide +kernel
theorem dX12_gap_14 : decode cX12_gap 14 = .ok (.iconst 0, 1) := by decide +kernel
theorem dX12_gap_15 : decode cX12_gap 15 = .ok (.istore_n 3, 1) := by decide +kernel
theorem dX12_gap_16 : decode cX12_gap 16 = .ok (.aload_n 0, 1) := by decide +kernel
theorem dX12_gap_17 : decode cX12_gap 17 = .ok (.iload_n 1, 1) := by decide +kernel
theorem dX12_gap_18 : decode cX12_gap 18 = .ok (.iconst (-1), 1) := by decide +kernel
theorem dX12_gap_19 : decode cX12_gap 19 = .ok (.invokevirtual 171, 3) := by decide +kernel
theorem dX12_gap_22 : decode cX12_gap 22 = .ok (.istore 4, 2) := by decide +kernel
theorem dX12_gap_24 : decode cX12_gap 24 = .ok (.iload 4, 2) := by decide +kernel
theorem dX12_gap_26 : decode cX12_gap 26 = .ok (.iconst (-1), 1) := by decide +kernel
theorem dX12_gap_27 : decode cX12_gap 27 = .ok (.if_icmp .eq 23, 3) := by decide +kernel
theorem dX12_gap_30 : decode cX12_gap 30 = .ok (.iload_n 3, 1) := by decide +kernel
theorem dX12_gap_31 : decode cX12_gap 31 = .ok (.iload_n 2, 1) := by decide +kernel
theorem dX12_gap_32 : decode cX12_gap 32 = .ok (.if_icmp .eq 18, 3) := by decide +kernel
theorem dX12_gap_35 : decode cX12_gap 35 = .ok (.iinc 3 1, 3) := by decide +kernel
theorem dX12_gap_38 : decode cX12_gap 38 = .ok (.aload_n 0, 1) := by decide +kernel
theorem dX12_gap_39 : decode cX12_gap 39 = .ok (.iload_n 1, 1) := by decide +kernel
theorem dX12_gap_40 : decode cX12_gap 40 = .ok (.iload 4, 2) := by decide +kernel
theorem dX12_gap_42 : decode cX12_gap 42 = .ok (.invokevirtual 171, 3) := by decide +kernel
theorem dX12_gap_45 : decode cX12_gap 45 = .ok (.istore 4, 2) := by decide +kernel
theorem dX12_gap_47 : decode cX12_gap 47 = .ok (.goto (-23), 3) := by decide +kernel
theorem dX12_gap_50 : decode cX12_gap 50 = .ok (.iload_n 2, 1) := by decide +kernel
theorem dX12_gap_51 : decode cX12_gap 51 = .ok (.iconst (-1), 1) := by decide +kernel
theorem dX12_gap_52 : decode cX12_gap 52 = .ok (.if_icmp .ne 7, 3) := by decide +kernel
theorem dX12_gap_55 : decode cX12_gap 55 = .ok (.iload_n 3, 1) := by decide +kernel
theorem dX12_gap_56 : decode cX12_gap 56 = .ok (.goto 5, 3) := by decide +kernel
theorem dX12_gap_59 : decode cX12_gap 59 = .ok (.iload 4, 2) := by decide +kernel
theorem dX12_gap_61 : decode cX12_gap 61 = .ok (.ireturn, 1) := by decide +kernel
theorem dX12_gapBehind_0 : decode cX12_gapBehind 0 = .ok (.iload_n 2, 1) := by decide +kernel
theorem dX12_gapBehind_1 : decode cX12_gapBehind 1 = .ok (.iconst (-1), 1) := by decide +kernel
theorem dX12_gapBehind_2 : decode cX12_gapBehind 2 = .ok (.if_icmp .ne 7, 3) := by decide +kernel
theorem dX12_gapBehind_5 : decode cX12_gapBehind 5 = .ok (.iconst 0, 1) := by decide +kernel
theorem dX12_gapBehind_6 : decode cX12_gapBehind 6 = .ok (.goto 8, 3) := by decide +kernel
theorem dX12_gapBehind_9 : decode cX12_gapBehind 9 = .ok (.iload_n 2, 1) := by decide +kernel
theorem dX12_gapBehind_10 : decode cX12_gapBehind 10 = .ok (.sipush 1000, 3) := by decide +kernel
theorem dX12_gapBehind_13 : decode cX12_gapBehind 13 = .ok (.idiv, 1) := by decide +kernel
theorem dX12_gapBehind_14 : decode cX12_gapBehind 14 = .ok (.istore_n 3, 1) := by decide +kernel
theorem dX12_gapBehind_15 : decode cX12_gapBehind 15 = .ok (.iload_n 3, 1) := by decide +kernel
theorem dX12_gapBehind_16 : decode cX12_gapBehind 16 = .ok (.istore 4, 2) := by decide +kernel
theorem dX12_gapBehind_18 : decode cX12_gapBehind 18 = .ok (.iload 4, 2) := by decide +kernel
theorem dX12_gapBehind_20 : decode cX12_gapBehind 20 = .ok (.aload_n 0, 1) := by decide +kernel
theorem dX12_gapBehind_21 : decode cX12_gapBehind 21 = .ok (.getfield 23, 3) := by decide +kernel
theorem dX12_gapBehind_24 : decode cX12_gapBehind 24 = .ok (.iload_n 1, 1) := by decide +kernel
theorem dX12_gapBehind_25 : decode cX12_gapBehind 25 = .ok (.iaload, 1) := by decide +kernel
theorem dX12_gapBehind_26 : decode cX12_gapBehind 26 = .ok (.if_icmp .ge 135, 3) := by decide +kernel
theorem dX12_gapBehind_29 : decode cX12_gapBehind 29 = .ok (.iload_n 2, 1) := by decide +kernel
theorem dX12_gapBehind_30 : decode cX12_gapBehind 30 = .ok (.iconst (-1), 1) := by decide +kernel
theorem dX12_gapBehind_31 : decode cX12_gapBehind 31 = .ok (.if_icmp .eq 19, 3) := by decide +kernel
theorem dX12_gapBehind_34 : decode cX12_gapBehind 34 = .ok (.iload 4, 2) := by decide +kernel
theorem dX12_gapBehind_36 : decode cX12_gapBehind 36 = .ok (.iload_n 3, 1) := by decide +kernel
theorem dX12_gapBehind_37 : decode cX12_gapBehind 37 = .ok (.if_icmp .ne 13, 3) := by decide +kernel
theorem dX12_gapBehind_40 : decode cX12_gapBehind 40 = .ok (.iload_n 2, 1) := by decide +kernel
theorem dX12_gapBehind_41 : decode cX12_gapBehind 41 = .ok (.bipush 100, 2) := by decide +kernel
theorem dX12_gapBehind_43 : decode cX12_gapBehind 43 = .ok (.idiv, 1) := by decide +kernel
theorem dX12_gapBehind_44 : decode cX12_gapBehind 44 = .ok (.bipush 10, 2) := by decide +kernel
theorem dX12_gapBehind_46 : decode cX12_gapBehind 46 = .ok (.irem, 1) := by decide +kernel
theorem dX12_gapBehind_47 : decode cX12_gapBehind 47 = .ok (.goto 5, 3) := by decide +kernel
theorem dX12_gapBehind_50 : decode cX12_gapBehind 50 = .ok (.iload 4, 2) := by decide +kernel
theorem dX12_gapBehind_52 : decode cX12_gapBehind 52 = .ok (.istore 5, 2) := by decide +kernel
theorem dX12_gapBehind_54 : decode cX12_gapBehind 54 = .ok (.iload 5, 2) := by decide +kernel
theorem dX12_gapBehind_56 : decode cX12_gapBehind 56 = .ok (.aload_n 0, 1) := by decide +kernel
theorem dX12_gapBehind_57 : decode cX12_gapBehind 57 = .ok (.getfield 23, 3) := by decide +kernel
theorem dX12_gapBehind_60 : decode cX12_gapBehind 60 = .ok (.iload_n 1, 1) := by decide +kernel
theorem dX12_gapBehind_61 : decode cX12_gapBehind 61 = .ok (.iaload, 1) := by decide +kernel
theorem dX12_gapBehind_62 : decode cX12_gapBehind 62 = .ok (.if_icmp .ge 93, 3) := by decide +kernel
theorem dX12_gapBehind_65 : decode cX12_gapBehind 65 = .ok (.iconst 1, 1) := by decide +kernel
theorem dX12_gapBehind_66 : decode cX12_gapBehind 66 = .ok (.istore 6, 2) := by decide +kernel
theorem dX12_gapBehind_68 : decode cX12_gapBehind 68 = .ok (.iload 6, 2) := by decide +kernel
theorem dX12_gapBehind_70 : decode cX12_gapBehind 70 = .ok (.aload_n 0, 1) := by decide +kernel
theorem dX12_gapBehind_71 : decode cX12_gapBehind 71 = .ok (.getfield 9, 3) := by decide +kernel
theorem dX12_gapBehind_74 : decode cX12_gapBehind 74 = .ok (.if_icmp .ge 75, 3) := by decide +kernel
theorem dX12_gapBehind_77 : decode cX12_gapBehind 77 = .ok (.iconst 1, 1) := by decide +kernel
theorem dX12_gapBehind_78 : decode cX12_gapBehind 78 = .ok (.istore 7, 2) := by decide +kernel
theorem dX12_gapBehind_80 : decode cX12_gapBehind 80 = .ok (.iload 7, 2) := by decide +kernel
theorem dX12_gapBehind_82 : decode cX12_gapBehind 82 = .ok (.aload_n 0, 1) := by decide +kernel
theorem dX12_gapBehind_83 : decode cX12_gapBehind 83 = .ok (.getfield 9, 3) := by decide +kernel
theorem dX12_gapBehind_86 : decode cX12_gapBehind 86 = .ok (.if_icmp .ge 57, 3) := by decide +kernel
theorem dX12_gapBehind_89 : decode cX12_gapBehind 89 = .ok (.sipush 1000, 3) := by decide +kernel
theorem dX12_gapBehind_92 : decode cX12_gapBehind 92 = .ok (.iload 4, 2) := by decide +kernel
theorem dX12_gapBehind_94 : decode cX12_gapBehind 94 = .ok (.imul, 1) := by decide +kernel
theorem dX12_gapBehind_95 : decode cX12_gapBehind 95 = .ok (.bipush 100, 2) := by decide +kernel
theorem dX12_gapBehind_97 : decode cX12_gapBehind 97 = .ok (.iload 5, 2) := by decide +kernel
theorem dX12_gapBehind_99 : decode cX12_gapBehind 99 = .ok (.imul, 1) := by decide +kernel
theorem dX12_gapBehind_100 : decode cX12_gapBehind 100 = .ok (.iadd, 1) := by decide +kernel
theorem dX12_gapBehind_101 : decode cX12_gapBehind 101 = .ok (.bipush 10, 2) := by decide +kernel
theorem dX12_gapBehind_103 : decode cX12_gapBehind 103 = .ok (.iload 6, 2) := by decide +kernel
theorem dX12_gapBehind_105 : decode cX12_gapBehind 105 = .ok (.imul, 1) := by decide +kernel
theorem dX12_gapBehind_106 : decode cX12_gapBehind 106 = .ok (.iadd, 1) := by decide +kernel
theorem dX12_gapBehind_107 : decode cX12_gapBehind 107 = .ok (.iload 7, 2) := by decide +kernel
theorem dX12_gapBehind_109 : decode cX12_gapBehind 109 = .ok (.iadd, 1) := by decide +kernel
theorem dX12_gapBehind_110 : decode cX12_gapBehind 110 = .ok (.istore 8, 2) := by decide +kernel
theorem dX12_gapBehind_112 : decode cX12_gapBehind 112 = .ok (.iload 8, 2) := by decide +kernel
theorem dX12_gapBehind_114 : decode cX12_gapBehind 114 = .ok (.iload_n 2, 1) := by decide +kernel
theorem dX12_gapBehind_115 : decode cX12_gapBehind 115 = .ok (.if_icmp .le 22, 3) := by decide +kernel
theorem dX12_gapBehind_118 : decode cX12_gapBehind 118 = .ok (.aload_n 0, 1) := by decide +kernel
theorem dX12_gapBehind_119 : decode cX12_gapBehind 119 = .ok (.iload_n 1, 1) := by decide +kernel
theorem dX12_gapBehind_120 : decode cX12_gapBehind 120 = .ok (.iload 4, 2) := by decide +kernel
theorem dX12_gapBehind_122 : decode cX12_gapBehind 122 = .ok (.iload 5, 2) := by decide +kernel
theorem dX12_gapBehind_124 : decode cX12_gapBehind 124 = .ok (.iload 6, 2) := by decide +kernel
theorem dX12_gapBehind_126 : decode cX12_gapBehind 126 = .ok (.iload 7, 2) := by decide +kernel
theorem dX12_gapBehind_128 : decode cX12_gapBehind 128 = .ok (.invokevirtual 167, 3) := by decide +kernel
theorem dX12_gapBehind_131 : decode cX12_gapBehind 131 = .ok (.ifCond .eq 6, 3) := by decide +kernel
theorem dX12_gapBehind_134 : decode cX12_gapBehind 134 = .ok (.iload 8, 2) := by decide +kernel
theorem dX12_gapBehind_136 : decode cX12_gapBehind 136 = .ok (.ireturn, 1) := by decide +kernel
theorem dX12_gapBehind_137 : decode cX12_gapBehind 137 = .ok (.iinc 7 1, 3) := by decide +kernel
theorem dX12_gapBehind_140 : decode cX12_gapBehind 140 = .ok (.goto (-60), 3) := by decide +kernel
theorem dX12_gapBehind_143 : decode cX12_gapBehind 143 = .ok (.iinc 6 1, 3) := by decide +kernel
theorem dX12_gapBehind_146 : decode cX12_gapBehind 146 = .ok (.goto (-78), 3) := by decide +kernel
theorem dX12_gapBehind_149 : decode cX12_gapBehind 149 = .ok (.iinc 5 1, 3) := by decide +kernel
theorem dX12_gapBehind_152 : decode cX12_gapBehind 152 = .ok (.goto (-98), 3) := by decide +kernel
theorem dX12_gapBehind_155 : decode cX12_gapBehind 155 = .ok (.iinc 4 1, 3) := by decide +kernel
theorem dX12_gapBehind_158 : decode cX12_gapBehind 158 = .ok (.goto (-140), 3) := by decide +kernel
theorem dX12_gapBehind_161 : decode cX12_gapBehind 161 = .ok (.iconst (-1), 1) := by decide +kernel
theorem dX12_gapBehind_162 : decode cX12_gapBehind 162 = .ok (.ireturn, 1) := by decide +kernel
theorem dX12_get_0 : decode cX12_get 0 = .ok (.iload_n 1, 1) := by decide +kernel
theorem dX12_get_1 : decode cX12_get 1 = .ok (.invokestatic 241, 3) := by decide +kernel
theorem dX12_get_4 : decode cX12_get 4 = .ok (.ifCond .eq 35, 3) := by decide +kernel
theorem dX12_get_7 : decode cX12_get 7 = .ok (.iload_n 2, 1) := by decide +kernel
theorem dX12_get_8 : decode cX12_get 8 = .ok (.i2l, 1) := by decide +kernel
theorem dX12_get_9 : decode cX12_get 9 = .ok (.lconst 0, 1) := by decide +kernel
theorem dX12_get_10 : decode cX12_get 10 = .ok (.aload_n 0, 1) := by decide +kernel
theorem dX12_get_11 : decode cX12_get 11 = .ok (.getfield 35, 3) := by decide +kernel
theorem dX12_get_14 : decode cX12_get 14 = .ok (.iload_n 1, 1) := by decide +kernel
theorem dX12_get_15 : decode cX12_get 15 = .ok (.iaload, 1) := by decide +kernel
theorem dX12_get_16 : decode cX12_get 16 = .ok (.iconst 1, 1) := by decide +kernel
theorem dX12_get_17 : decode cX12_get 17 = .ok (.isub, 1) := by decide +kernel
theorem dX12_get_18 : decode cX12_get 18 = .ok (.i2l, 1) := by decide +kernel
theorem dX12_get_19 : decode cX12_get 19 = .ok (.invokestatic 70, 3) := by decide +kernel
theorem dX12_get_22 : decode cX12_get 22 = .ok (.ifCond .eq 17, 3) := by decide +kernel
theorem dX12_get_25 : decode cX12_get 25 = .ok (.aload_n 0, 1) := by decide +kernel
theorem dX12_get_26 : decode cX12_get 26 = .ok (.getfield 38, 3) := by decide +kernel
theorem dX12_get_29 : decode cX12_get 29 = .ok (.bipush 12, 2) := by decide +kernel
theorem dX12_get_31 : decode cX12_get 31 = .ok (.iload_n 1, 1) := by decide +kernel
theorem dX12_get_32 : decode cX12_get 32 = .ok (.imul, 1) := by decide +kernel
theorem dX12_get_33 : decode cX12_get 33 = .ok (.iload_n 2, 1) := by decide +kernel
theorem dX12_get_34 : decode cX12_get 34 = .ok (.iadd, 1) := by decide +kernel
theorem dX12_get_35 : decode cX12_get 35 = .ok (.laload, 1) := by decide +kernel
theorem dX12_get_36 : decode cX12_get 36 = .ok (.goto 6, 3) := by decide +kernel
theorem dX12_get_39 : decode cX12_get 39 = .ok (.ldc2_w 255, 3) := by decide +kernel
theorem dX12_get_42 : decode cX12_get 42 = .ok (.lreturn, 1) := by decide +kernel
theorem dX12_has_0 : decode cX12_has 0 = .ok (.iload_n 0, 1) := by decide +kernel
theorem dX12_has_1 : decode cX12_has 1 = .ok (.iload_n 1, 1) := by decide +kernel
theorem dX12_has_2 : decode cX12_has 2 = .ok (.ishr, 1) := by decide +kernel
theorem dX12_has_3 : decode cX12_has 3 = .ok (.iconst 1, 1) := by decide +kernel
theorem dX12_has_4 : decode cX12_has 4 = .ok (.iand, 1) := by decide +kernel
theorem dX12_has_5 : decode cX12_has 5 = .ok (.iconst 1, 1) := by decide +kernel
theorem dX12_has_6 : decode cX12_has 6 = .ok (.if_icmp .ne 7, 3) := by decide +kernel
theorem dX12_has_9 : decode cX12_has 9 = .ok (.iconst 1, 1) := by decide +kernel
theorem dX12_has_10 : decode cX12_has 10 = .ok (.goto 4, 3) := by decide +kernel
theorem dX12_has_13 : decode cX12_has 13 = .ok (.iconst 0, 1) := by decide +kernel
theorem dX12_has_14 : decode cX12_has 14 = .ok (.ireturn, 1) := by decide +kernel
theorem dX12_image_0 : decode cX12_image 0 = .ok (.aload_n 0, 1) := by decide +kernel
theorem dX12_image_1 : decode cX12_image 1 = .ok (.iconst 1, 1) := by decide +kernel
theorem dX12_image_2 : decode cX12_image 2 = .ok (.putfield 312, 3) := by decide +kernel
theorem dX12_image_5 : decode cX12_image 5 = .ok (.aload_n 0, 1) := by decide +kernel
theorem dX12_image_6 : decode cX12_image 6 = .ok (.aload_n 0, 1) := by decide +kernel
theorem dX12_image_7 : decode cX12_image 7 = .ok (.getfield 9, 3) := by decide +kernel
theorem dX12_image_10 : decode cX12_image 10 = .ok (.putfield 315, 3) := by decide +kernel
theorem dX12_image_13 : decode cX12_image 13 = .ok (.iconst 0, 1) := by decide +kernel
theorem dX12_image_14 : decode cX12_image 14 = .ok (.istore_n 1, 1) := by decide +kernel
theorem dX12_image_15 : decode cX12_image 15 = .ok (.iload_n 1, 1) := by decide +kernel
theorem dX12_image_16 : decode cX12_image 16 = .ok (.iconst 4, 1) := by decide +kernel
theorem dX12_image_17 : decode cX12_image 17 = .ok (.if_icmp .ge 21, 3) := by decide +kernel
theorem dX12_image_20 : decode cX12_image 20 = .ok (.aload_n 0, 1) := by decide +kernel
theorem dX12_image_21 : decode cX12_image 21 = .ok (.getfield 55, 3) := by decide +kernel
theorem dX12_image_24 : decode cX12_image 24 = .ok (.iload_n 1, 1) := by decide +kernel
theorem dX12_image_25 : decode cX12_image 25 = .ok (.aload_n 0, 1) := by decide +kernel
theorem dX12_image_26 : decode cX12_image 26 = .ok (.getfield 15, 3) := by decide +kernel
theorem dX12_image_29 : decode cX12_image 29 = .ok (.iload_n 1, 1) := by decide +kernel
theorem dX12_image_30 : decode cX12_image 30 = .ok (.iaload, 1) := by decide +kernel
theorem dX12_image_31 : decode cX12_image 31 = .ok (.iastore, 1) := by decide +kernel
theorem dX12_image_32 : decode cX12_image 32 = .ok (.iinc 1 1, 3) := by decide +kernel
theorem dX12_image_35 : decode cX12_image 35 = .ok (.goto (-20), 3) := by decide +kernel
theorem dX12_image_38 : decode cX12_image 38 = .ok (.iconst 0, 1) := by decide +kernel
theorem dX12_image_39 : decode cX12_image 39 = .ok (.istore_n 1, 1) := by decide +kernel
theorem dX12_image_40 : decode cX12_image 40 = .ok (.iload_n 1, 1) := by decide +kernel
theorem dX12_image_41 : decode cX12_image 41 = .ok (.bipush 64, 2) := by decide +kernel
theorem dX12_image_43 : decode cX12_image 43 = .ok (.if_icmp .ge 21, 3) := by decide +kernel
theorem dX12_image_46 : decode cX12_image 46 = .ok (.aload_n 0, 1) := by decide +kernel
theorem dX12_image_47 : decode cX12_image 47 = .ok (.getfield 58, 3) := by decide +kernel
theorem dX12_image_50 : decode cX12_image 50 = .ok (.iload_n 1, 1) := by decide +kernel
theorem dX12_image_51 : decode cX12_image 51 = .ok (.aload_n 0, 1) := by decide +kernel
theorem dX12_image_52 : decode cX12_image 52 = .ok (.getfield 19, 3) := by decide +kernel
theorem dX12_image_55 : decode cX12_image 55 = .ok (.iload_n 1, 1) := by decide +kernel
theorem dX12_image_56 : decode cX12_image 56 = .ok (.baload, 1) := by decide +kernel
theorem dX12_image_57 : decode cX12_image 57 = .ok (.bastore, 1) := by decide +kernel
theorem dX12_image_58 : decode cX12_image 58 = .ok (.iinc 1 1, 3) := by decide +kernel
theorem dX12_image_61 : decode cX12_image 61 = .ok (.goto (-21), 3) := by decide +kernel
theorem dX12_image_64 : decode cX12_image 64 = .ok (.iconst 0, 1) := by decide +kernel
theorem dX12_image_65 : decode cX12_image 65 = .ok (.istore_n 1, 1) := by decide +kernel
theorem dX12_image_66 : decode cX12_image 66 = .ok (.iload_n 1, 1) := by decide +kernel
theorem dX12_image_67 : decode cX12_image 67 = .ok (.iconst 3, 1) := by decide +kernel
theorem dX12_image_68 : decode cX12_image 68 = .ok (.if_icmp .gt 21, 3) := by decide +kernel
theorem dX12_image_71 : decode cX12_image 71 = .ok (.aload_n 0, 1) := by decide +kernel
theorem dX12_image_72 : decode cX12_image 72 = .ok (.getfield 61, 3) := by decide +kernel
theorem dX12_image_75 : decode cX12_image 75 = .ok (.iload_n 1, 1) := by decide +kernel
theorem dX12_image_76 : decode cX12_image 76 = .ok (.aload_n 0, 1) := by decide +kernel
theorem dX12_image_77 : decode cX12_image 77 = .ok (.getfield 23, 3) := by decide +kernel
theorem dX12_image_80 : decode cX12_image 80 = .ok (.iload_n 1, 1) := by decide +kernel
theorem dX12_image_81 : decode cX12_image 81 = .ok (.iaload, 1) := by decide +kernel
theorem dX12_image_82 : decode cX12_image 82 = .ok (.iastore, 1) := by decide +kernel
theorem dX12_image_83 : decode cX12_image 83 = .ok (.iinc 1 1, 3) := by decide +kernel
theorem dX12_image_86 : decode cX12_image 86 = .ok (.goto (-20), 3) := by decide +kernel
theorem dX12_image_89 : decode cX12_image 89 = .ok (.iconst 0, 1) := by decide +kernel
theorem dX12_image_90 : decode cX12_image 90 = .ok (.istore_n 1, 1) := by decide +kernel
theorem dX12_image_91 : decode cX12_image 91 = .ok (.iload_n 1, 1) := by decide +kernel
theorem dX12_image_92 : decode cX12_image 92 = .ok (.sipush 144, 3) := by decide +kernel
theorem dX12_image_95 : decode cX12_image 95 = .ok (.if_icmp .ge 21, 3) := by decide +kernel
theorem dX12_image_98 : decode cX12_image 98 = .ok (.aload_n 0, 1) := by decide +kernel
theorem dX12_image_99 : decode cX12_image 99 = .ok (.getfield 64, 3) := by decide +kernel
theorem dX12_image_102 : decode cX12_image 102 = .ok (.iload_n 1, 1) := by decide +kernel
theorem dX12_image_103 : decode cX12_image 103 = .ok (.aload_n 0, 1) := by decide +kernel
theorem dX12_image_104 : decode cX12_image 104 = .ok (.getfield 26, 3) := by decide +kernel
theorem dX12_image_107 : decode cX12_image 107 = .ok (.iload_n 1, 1) := by decide +kernel
theorem dX12_image_108 : decode cX12_image 108 = .ok (.iaload, 1) := by decide +kernel
theorem dX12_image_109 : decode cX12_image 109 = .ok (.iastore, 1) := by decide +kernel
theorem dX12_image_110 : decode cX12_image 110 = .ok (.iinc 1 1, 3) := by decide +kernel
theorem dX12_image_113 : decode cX12_image 113 = .ok (.goto (-22), 3) := by decide +kernel
theorem dX12_image_116 : decode cX12_image 116 = .ok (.aload_n 0, 1) := by decide +kernel
theorem dX12_image_117 : decode cX12_image 117 = .ok (.aload_n 0, 1) := by decide +kernel
theorem dX12_image_118 : decode cX12_image 118 = .ok (.getfield 74, 3) := by decide +kernel
theorem dX12_image_121 : decode cX12_image 121 = .ok (.putfield 318, 3) := by decide +kernel
theorem dX12_image_124 : decode cX12_image 124 = .ok (.aload_n 0, 1) := by decide +kernel
theorem dX12_image_125 : decode cX12_image 125 = .ok (.getfield 9, 3) := by decide +kernel
theorem dX12_image_128 : decode cX12_image 128 = .ok (.ireturn, 1) := by decide +kernel
theorem dX12_init_0 : decode cX12_init 0 = .ok (.aload_n 0, 1) := by decide +kernel
theorem dX12_init_1 : decode cX12_init 1 = .ok (.invokespecial 3, 3) := by decide +kernel
theorem dX12_init_4 : decode cX12_init 4 = .ok (.aload_n 0, 1) := by decide +kernel
theorem dX12_init_5 : decode cX12_init 5 = .ok (.iconst 1, 1) := by decide +kernel
theorem dX12_init_6 : decode cX12_init 6 = .ok (.putfield 9, 3) := by decide +kernel
theorem dX12_init_9 : decode cX12_init 9 = .ok (.aload_n 0, 1) := by decide +kernel
theorem dX12_init_10 : decode cX12_init 10 = .ok (.iconst 4, 1) := by decide +kernel
theorem dX12_init_11 : decode cX12_init 11 = .ok (.newarray .int, 2) := by decide +kernel
theorem dX12_init_13 : decode cX12_init 13 = .ok (.dup, 1) := by decide +kernel
theorem dX12_init_14 : decode cX12_init 14 = .ok (.iconst 0, 1) := by decide +kernel
theorem dX12_init_15 : decode cX12_init 15 = .ok (.iconst 0, 1) := by decide +kernel
theorem dX12_init_16 : decode cX12_init 16 = .ok (.iastore, 1) := by decide +kernel
theorem dX12_init_17 : decode cX12_init 17 = .ok (.dup, 1) := by decide +kernel
theorem dX12_init_18 : decode cX12_init 18 = .ok (.iconst 1, 1) := by decide +kernel
theorem dX12_init_19 : decode cX12_init 19 = .ok (.iconst 1, 1) := by decide +kernel
theorem dX12_init_20 : decode cX12_init 20 = .ok (.iastore, 1) := by decide +kernel
theorem dX12_init_21 : decode cX12_init 21 = .ok (.dup, 1) := by decide +kernel
theorem dX12_init_22 : decode cX12_init 22 = .ok (.iconst 2, 1) := by decide +kernel
theorem dX12_init_23 : decode cX12_init 23 = .ok (.iconst 2, 1) := by decide +kernel
theorem dX12_init_24 : decode cX12_init 24 = .ok (.iastore, 1) := by decide +kernel
theorem dX12_init_25 : decode cX12_init 25 = .ok (.dup, 1) := by decide +kernel
theorem dX12_init_26 : decode cX12_init 26 = .ok (.iconst 3, 1) := by decide +kernel
theorem dX12_init_27 : decode cX12_init 27 = .ok (.iconst 3, 1) := by decide +kernel
theorem dX12_init_28 : decode cX12_init 28 = .ok (.iastore, 1) := by decide +kernel
theorem dX12_init_29 : decode cX12_init 29 = .ok (.putfield 15, 3) := by decide +kernel
theorem dX12_init_32 : decode cX12_init 32 = .ok (.aload_n 0, 1) := by decide +kernel
theorem dX12_init_33 : decode cX12_init 33 = .ok (.bipush 64, 2) := by decide +kernel
theorem dX12_init_35 : decode cX12_init 35 = .ok (.newarray .boolean, 2) := by decide +kernel
theorem dX12_init_37 : decode cX12_init 37 = .ok (.putfield 19, 3) := by decide +kernel
theorem dX12_init_40 : decode cX12_init 40 = .ok (.aload_n 0, 1) := by decide +kernel
theorem dX12_init_41 : decode cX12_init 41 = .ok (.bipush 6, 2) := by decide +kernel
theorem dX12_init_43 : decode cX12_init 43 = .ok (.newarray .int, 2) := by decide +kernel
theorem dX12_init_45 : decode cX12_init 45 = .ok (.putfield 23, 3) := by decide +kernel
theorem dX12_init_48 : decode cX12_init 48 = .ok (.aload_n 0, 1) := by decide +kernel
theorem dX12_init_49 : decode cX12_init 49 = .ok (.sipush 216, 3) := by decide +kernel
theorem dX12_init_52 : decode cX12_init 52 = .ok (.newarray .int, 2) := by decide +kernel
theorem dX12_init_54 : decode cX12_init 54 = .ok (.putfield 26, 3) := by decide +kernel
theorem dX12_init_57 : decode cX12_init 57 = .ok (.aload_n 0, 1) := by decide +kernel
theorem dX12_init_58 : decode cX12_init 58 = .ok (.sipush 256, 3) := by decide +kernel
theorem dX12_init_61 : decode cX12_init 61 = .ok (.newarray .int, 2) := by decide +kernel
theorem dX12_init_63 : decode cX12_init 63 = .ok (.putfield 29, 3) := by decide +kernel
theorem dX12_init_66 : decode cX12_init 66 = .ok (.aload_n 0, 1) := by decide +kernel
theorem dX12_init_67 : decode cX12_init 67 = .ok (.bipush 13, 2) := by decide +kernel
theorem dX12_init_69 : decode cX12_init 69 = .ok (.newarray .int, 2) := by decide +kernel
theorem dX12_init_71 : decode cX12_init 71 = .ok (.putfield 32, 3) := by decide +kernel
theorem dX12_init_74 : decode cX12_init 74 = .ok (.aload_n 0, 1) := by decide +kernel
theorem dX12_init_75 : decode cX12_init 75 = .ok (.iconst 3, 1) := by decide +kernel
theorem dX12_init_76 : decode cX12_init 76 = .ok (.newarray .int, 2) := by decide +kernel
theorem dX12_init_78 : decode cX12_init 78 = .ok (.dup, 1) := by decide +kernel
theorem dX12_init_79 : decode cX12_init 79 = .ok (.iconst 0, 1) := by decide +kernel
theorem dX12_init_80 : decode cX12_init 80 = .ok (.iconst (-1), 1) := by decide +kernel
theorem dX12_init_81 : decode cX12_init 81 = .ok (.iastore, 1) := by decide +kernel
theorem dX12_init_82 : decode cX12_init 82 = .ok (.dup, 1) := by decide +kernel
theorem dX12_init_83 : decode cX12_init 83 = .ok (.iconst 1, 1) := by decide +kernel
theorem dX12_init_84 : decode cX12_init 84 = .ok (.iconst (-1), 1) := by decide +kernel
theorem dX12_init_85 : decode cX12_init 85 = .ok (.iastore, 1) := by decide +kernel
theorem dX12_init_86 : decode cX12_init 86 = .ok (.dup, 1) := by decide +kernel
theorem dX12_init_87 : decode cX12_init 87 = .ok (.iconst 2, 1) := by decide +kernel
theorem dX12_init_88 : decode cX12_init 88 = .ok (.iconst (-1), 1) := by decide +kernel
theorem dX12_init_89 : decode cX12_init 89 = .ok (.iastore, 1) := by decide +kernel
theorem dX12_init_90 : decode cX12_init 90 = .ok (.putfield 35, 3) := by decide +kernel
theorem dX12_init_93 : decode cX12_init 93 = .ok (.aload_n 0, 1) := by decide +kernel
theorem dX12_init_94 : decode cX12_init 94 = .ok (.bipush 36, 2) := by decide +kernel
theorem dX12_init_96 : decode cX12_init 96 = .ok (.newarray .long, 2) := by decide +kernel
theorem dX12_init_98 : decode cX12_init 98 = .ok (.putfield 38, 3) := by decide +kernel
theorem dX12_init_101 : decode cX12_init 101 = .ok (.aload_n 0, 1) := by decide +kernel
theorem dX12_init_102 : decode cX12_init 102 = .ok (.bipush 18, 2) := by decide +kernel
theorem dX12_init_104 : decode cX12_init 104 = .ok (.newarray .char, 2) := by decide +kernel
theorem dX12_init_106 : decode cX12_init 106 = .ok (.dup, 1) := by decide +kernel
theorem dX12_init_107 : decode cX12_init 107 = .ok (.iconst 0, 1) := by decide +kernel
theorem dX12_init_108 : decode cX12_init 108 = .ok (.bipush 97, 2) := by decide +kernel
theorem dX12_init_110 : decode cX12_init 110 = .ok (.castore, 1) := by decide +kernel
theorem dX12_init_111 : decode cX12_init 111 = .ok (.dup, 1) := by decide +kernel
theorem dX12_init_112 : decode cX12_init 112 = .ok (.iconst 1, 1) := by decide +kernel
theorem dX12_init_113 : decode cX12_init 113 = .ok (.bipush 116, 2) := by decide +kernel
theorem dX12_init_115 : decode cX12_init 115 = .ok (.castore, 1) := by decide +kernel
theorem dX12_init_116 : decode cX12_init 116 = .ok (.dup, 1) := by decide +kernel
theorem dX12_init_117 : decode cX12_init 117 = .ok (.iconst 2, 1) := by decide +kernel
theorem dX12_init_118 : decode cX12_init 118 = .ok (.bipush 111, 2) := by decide +kernel
theorem dX12_init_120 : decode cX12_init 120 = .ok (.castore, 1) := by decide +kernel
theorem dX12_init_121 : decode cX12_init 121 = .ok (.dup, 1) := by decide +kernel
theorem dX12_init_122 : decode cX12_init 122 = .ok (.iconst 3, 1) := by decide +kernel
theorem dX12_init_123 : decode cX12_init 123 = .ok (.bipush 109, 2) := by decide +kernel
theorem dX12_init_125 : decode cX12_init 125 = .ok (.castore, 1) := by decide +kernel
theorem dX12_init_126 : decode cX12_init 126 = .ok (.dup, 1) := by decide +kernel
theorem dX12_init_127 : decode cX12_init 127 = .ok (.iconst 4, 1) := by decide +kernel
theorem dX12_init_128 : decode cX12_init 128 = .ok (.bipush 115, 2) := by decide +kernel
theorem dX12_init_130 : decode cX12_init 130 = .ok (.castore, 1) := by decide +kernel
theorem dX12_init_131 : decode cX12_init 131 = .ok (.dup, 1) := by decide +kernel
theorem dX12_init_132 : decode cX12_init 132 = .ok (.iconst 5, 1) := by decide +kernel
theorem dX12_init_133 : decode cX12_init 133 = .ok (.bipush 32, 2) := by decide +kernel
theorem dX12_init_135 : decode cX12_init 135 = .ok (.castore, 1) := by decide +kernel
theorem dX12_init_136 : decode cX12_init 136 = .ok (.dup, 1) := by decide +kernel
theorem dX12_init_137 : decode cX12_init 137 = .ok (.bipush 6, 2) := by decide +kernel
theorem dX12_init_139 : decode cX12_init 139 = .ok (.bipush 112, 2) := by decide +kernel
theorem dX12_init_141 : decode cX12_init 141 = .ok (.castore, 1) := by decide +kernel
theorem dX12_init_142 : decode cX12_init 142 = .ok (.dup, 1) := by decide +kernel
theorem dX12_init_143 : decode cX12_init 143 = .ok (.bipush 7, 2) := by decide +kernel
theorem dX12_init_145 : decode cX12_init 145 = .ok (.bipush 97, 2) := by decide +kernel
theorem dX12_init_147 : decode cX12_init 147 = .ok (.castore, 1) := by decide +kernel
theorem dX12_init_148 : decode cX12_init 148 = .ok (.dup, 1) := by decide +kernel
theorem dX12_init_149 : decode cX12_init 149 = .ok (.bipush 8, 2) := by decide +kernel
theorem dX12_init_151 : decode cX12_init 151 = .ok (.bipush 105, 2) := by decide +kernel
theorem dX12_init_153 : decode cX12_init 153 = .ok (.castore, 1) := by decide +kernel
theorem dX12_init_154 : decode cX12_init 154 = .ok (.dup, 1) := by decide +kernel
theorem dX12_init_155 : decode cX12_init 155 = .ok (.bipush 9, 2) := by decide +kernel
theorem dX12_init_157 : decode cX12_init 157 = .ok (.bipush 114, 2) := by decide +kernel
theorem dX12_init_159 : decode cX12_init 159 = .ok (.castore, 1) := by decide +kernel
theorem dX12_init_160 : decode cX12_init 160 = .ok (.dup, 1) := by decide +kernel
theorem dX12_init_161 : decode cX12_init 161 = .ok (.bipush 10, 2) := by decide +kernel
theorem dX12_init_163 : decode cX12_init 163 = .ok (.bipush 32, 2) := by decide +kernel
theorem dX12_init_165 : decode cX12_init 165 = .ok (.castore, 1) := by decide +kernel
theorem dX12_init_166 : decode cX12_init 166 = .ok (.dup, 1) := by decide +kernel
theorem dX12_init_167 : decode cX12_init 167 = .ok (.bipush 11, 2) := by decide +kernel
theorem dX12_init_169 : decode cX12_init 169 = .ok (.bipush 105, 2) := by decide +kernel
theorem dX12_init_171 : decode cX12_init 171 = .ok (.castore, 1) := by decide +kernel
theorem dX12_init_172 : decode cX12_init 172 = .ok (.dup, 1) := by decide +kernel
theorem dX12_init_173 : decode cX12_init 173 = .ok (.bipush 12, 2) := by decide +kernel
theorem dX12_init_175 : decode cX12_init 175 = .ok (.bipush 110, 2) := by decide +kernel
theorem dX12_init_177 : decode cX12_init 177 = .ok (.castore, 1) := by decide +kernel
theorem dX12_init_178 : decode cX12_init 178 = .ok (.dup, 1) := by decide +kernel
theorem dX12_init_179 : decode cX12_init 179 = .ok (.bipush 13, 2) := by decide +kernel
theorem dX12_init_181 : decode cX12_init 181 = .ok (.bipush 32, 2) := by decide +kernel
theorem dX12_init_183 : decode cX12_init 183 = .ok (.castore, 1) := by decide +kernel
theorem dX12_init_184 : decode cX12_init 184 = .ok (.dup, 1) := by decide +kernel
theorem dX12_init_185 : decode cX12_init 185 = .ok (.bipush 14, 2) := by decide +kernel
theorem dX12_init_187 : decode cX12_init 187 = .ok (.bipush 111, 2) := by decide +kernel
theorem dX12_init_189 : decode cX12_init 189 = .ok (.castore, 1) := by decide +kernel
theorem dX12_init_190 : decode cX12_init 190 = .ok (.dup, 1) := by decide +kernel
theorem dX12_init_191 : decode cX12_init 191 = .ok (.bipush 15, 2) := by decide +kernel
theorem dX12_init_193 : decode cX12_init 193 = .ok (.bipush 117, 2) := by decide +kernel
theorem dX12_init_195 : decode cX12_init 195 = .ok (.castore, 1) := by decide +kernel
theorem dX12_init_196 : decode cX12_init 196 = .ok (.dup, 1) := by decide +kernel
theorem dX12_init_197 : decode cX12_init 197 = .ok (.bipush 16, 2) := by decide +kernel
theorem dX12_init_199 : decode cX12_init 199 = .ok (.bipush 116, 2) := by decide +kernel
theorem dX12_init_201 : decode cX12_init 201 = .ok (.castore, 1) := by decide +kernel
theorem dX12_init_202 : decode cX12_init 202 = .ok (.dup, 1) := by decide +kernel
theorem dX12_init_203 : decode cX12_init 203 = .ok (.bipush 17, 2) := by decide +kernel
theorem dX12_init_205 : decode cX12_init 205 = .ok (.bipush 32, 2) := by decide +kernel
theorem dX12_init_207 : decode cX12_init 207 = .ok (.castore, 1) := by decide +kernel
theorem dX12_init_208 : decode cX12_init 208 = .ok (.putfield 42, 3) := by decide +kernel
theorem dX12_init_211 : decode cX12_init 211 = .ok (.aload_n 0, 1) := by decide +kernel
theorem dX12_init_212 : decode cX12_init 212 = .ok (.iconst 4, 1) := by decide +kernel
theorem dX12_init_213 : decode cX12_init 213 = .ok (.newarray .int, 2) := by decide +kernel
theorem dX12_init_215 : decode cX12_init 215 = .ok (.dup, 1) := by decide +kernel
theorem dX12_init_216 : decode cX12_init 216 = .ok (.iconst 0, 1) := by decide +kernel
theorem dX12_init_217 : decode cX12_init 217 = .ok (.iconst 1, 1) := by decide +kernel
theorem dX12_init_218 : decode cX12_init 218 = .ok (.iastore, 1) := by decide +kernel
theorem dX12_init_219 : decode cX12_init 219 = .ok (.dup, 1) := by decide +kernel
theorem dX12_init_220 : decode cX12_init 220 = .ok (.iconst 1, 1) := by decide +kernel
theorem dX12_init_221 : decode cX12_init 221 = .ok (.iconst 2, 1) := by decide +kernel
theorem dX12_init_222 : decode cX12_init 222 = .ok (.iastore, 1) := by decide +kernel
theorem dX12_init_223 : decode cX12_init 223 = .ok (.dup, 1) := by decide +kernel
theorem dX12_init_224 : decode cX12_init 224 = .ok (.iconst 2, 1) := by decide +kernel
theorem dX12_init_225 : decode cX12_init 225 = .ok (.iconst 3, 1) := by decide +kernel
theorem dX12_init_226 : decode cX12_init 226 = .ok (.iastore, 1) := by decide +kernel
theorem dX12_init_227 : decode cX12_init 227 = .ok (.dup, 1) := by decide +kernel
theorem dX12_init_228 : decode cX12_init 228 = .ok (.iconst 3, 1) := by decide +kernel
theorem dX12_init_229 : decode cX12_init 229 = .ok (.iconst 3, 1) := by decide +kernel
theorem dX12_init_230 : decode cX12_init 230 = .ok (.iastore, 1) := by decide +kernel
theorem dX12_init_231 : decode cX12_init 231 = .ok (.putfield 46, 3) := by decide +kernel
theorem dX12_init_234 : decode cX12_init 234 = .ok (.aload_n 0, 1) := by decide +kernel
theorem dX12_init_235 : decode cX12_init 235 = .ok (.bipush 100, 2) := by decide +kernel
theorem dX12_init_237 : decode cX12_init 237 = .ok (.newarray .int, 2) := by decide +kernel
theorem dX12_init_239 : decode cX12_init 239 = .ok (.putfield 49, 3) := by decide +kernel
theorem dX12_init_242 : decode cX12_init 242 = .ok (.aload_n 0, 1) := by decide +kernel
theorem dX12_init_243 : decode cX12_init 243 = .ok (.iconst 3, 1) := by decide +kernel
theorem dX12_init_244 : decode cX12_init 244 = .ok (.newarray .int, 2) := by decide +kernel
theorem dX12_init_246 : decode cX12_init 246 = .ok (.putfield 52, 3) := by decide +kernel
theorem dX12_init_249 : decode cX12_init 249 = .ok (.aload_n 0, 1) := by decide +kernel
theorem dX12_init_250 : decode cX12_init 250 = .ok (.iconst 4, 1) := by decide +kernel
theorem dX12_init_251 : decode cX12_init 251 = .ok (.newarray .int, 2) := by decide +kernel
theorem dX12_init_253 : decode cX12_init 253 = .ok (.putfield 55, 3) := by decide +kernel
theorem dX12_init_256 : decode cX12_init 256 = .ok (.aload_n 0, 1) := by decide +kernel
theorem dX12_init_257 : decode cX12_init 257 = .ok (.bipush 64, 2) := by decide +kernel
theorem dX12_init_259 : decode cX12_init 259 = .ok (.newarray .boolean, 2) := by decide +kernel
theorem dX12_init_261 : decode cX12_init 261 = .ok (.putfield 58, 3) := by decide +kernel
theorem dX12_init_264 : decode cX12_init 264 = .ok (.aload_n 0, 1) := by decide +kernel
theorem dX12_init_265 : decode cX12_init 265 = .ok (.bipush 6, 2) := by decide +kernel
theorem dX12_init_267 : decode cX12_init 267 = .ok (.newarray .int, 2) := by decide +kernel
theorem dX12_init_269 : decode cX12_init 269 = .ok (.putfield 61, 3) := by decide +kernel
theorem dX12_init_272 : decode cX12_init 272 = .ok (.aload_n 0, 1) := by decide +kernel
theorem dX12_init_273 : decode cX12_init 273 = .ok (.sipush 216, 3) := by decide +kernel
theorem dX12_init_276 : decode cX12_init 276 = .ok (.newarray .int, 2) := by decide +kernel
theorem dX12_init_278 : decode cX12_init 278 = .ok (.putfield 64, 3) := by decide +kernel
theorem dX12_init_281 : decode cX12_init 281 = .ok (.aload_n 0, 1) := by decide +kernel
theorem dX12_init_282 : decode cX12_init 282 = .ok (.invokevirtual 67, 3) := by decide +kernel
theorem dX12_init_285 : decode cX12_init 285 = .ok (.return_, 1) := by decide +kernel
theorem dX12_is_0 : decode cX12_is 0 = .ok (.aload_n 0, 1) := by decide +kernel
theorem dX12_is_1 : decode cX12_is 1 = .ok (.getfield 19, 3) := by decide +kernel
theorem dX12_is_4 : decode cX12_is 4 = .ok (.bipush 16, 2) := by decide +kernel
theorem dX12_is_6 : decode cX12_is 6 = .ok (.iload_n 1, 1) := by decide +kernel
theorem dX12_is_7 : decode cX12_is 7 = .ok (.imul, 1) := by decide +kernel
theorem dX12_is_8 : decode cX12_is 8 = .ok (.iconst 4, 1) := by decide +kernel
theorem dX12_is_9 : decode cX12_is 9 = .ok (.iload_n 2, 1) := by decide +kernel
theorem dX12_is_10 : decode cX12_is 10 = .ok (.imul, 1) := by decide +kernel
theorem dX12_is_11 : decode cX12_is 11 = .ok (.iadd, 1) := by decide +kernel
theorem dX12_is_12 : decode cX12_is 12 = .ok (.iload_n 3, 1) := by decide +kernel
theorem dX12_is_13 : decode cX12_is 13 = .ok (.iadd, 1) := by decide +kernel
theorem dX12_is_14 : decode cX12_is 14 = .ok (.baload, 1) := by decide +kernel
theorem dX12_is_15 : decode cX12_is 15 = .ok (.ireturn, 1) := by decide +kernel
theorem dX12_isAllHad_0 : decode cX12_isAllHad 0 = .ok (.iconst 0, 1) := by decide +kernel
theorem dX12_isAllHad_1 : decode cX12_isAllHad 1 = .ok (.istore_n 1, 1) := by decide +kernel
theorem dX12_isAllHad_2 : decode cX12_isAllHad 2 = .ok (.iconst 0, 1) := by decide +kernel
theorem dX12_isAllHad_3 : decode cX12_isAllHad 3 = .ok (.istore_n 2, 1) := by decide +kernel
theorem dX12_isAllHad_4 : decode cX12_isAllHad 4 = .ok (.iload_n 2, 1) := by decide +kernel
theorem dX12_isAllHad_5 : decode cX12_isAllHad 5 = .ok (.aload_n 0, 1) := by decide +kernel
theorem dX12_isAllHad_6 : decode cX12_isAllHad 6 = .ok (.getfield 235, 3) := by decide +kernel
theorem dX12_isAllHad_9 : decode cX12_isAllHad 9 = .ok (.if_icmp .ge 20, 3) := by decide +kernel
theorem dX12_isAllHad_12 : decode cX12_isAllHad 12 = .ok (.iload_n 1, 1) := by decide +kernel
theorem dX12_isAllHad_13 : decode cX12_isAllHad 13 = .ok (.iconst 1, 1) := by decide +kernel
theorem dX12_isAllHad_14 : decode cX12_isAllHad 14 = .ok (.aload_n 0, 1) := by decide +kernel
theorem dX12_isAllHad_15 : decode cX12_isAllHad 15 = .ok (.getfield 32, 3) := by decide +kernel
theorem dX12_isAllHad_18 : decode cX12_isAllHad 18 = .ok (.iload_n 2, 1) := by decide +kernel
theorem dX12_isAllHad_19 : decode cX12_isAllHad 19 = .ok (.iaload, 1) := by decide +kernel
theorem dX12_isAllHad_20 : decode cX12_isAllHad 20 = .ok (.ishl, 1) := by decide +kernel
theorem dX12_isAllHad_21 : decode cX12_isAllHad 21 = .ok (.ior, 1) := by decide +kernel
theorem dX12_isAllHad_22 : decode cX12_isAllHad 22 = .ok (.istore_n 1, 1) := by decide +kernel
theorem dX12_isAllHad_23 : decode cX12_isAllHad 23 = .ok (.iinc 2 1, 3) := by decide +kernel
theorem dX12_isAllHad_26 : decode cX12_isAllHad 26 = .ok (.goto (-22), 3) := by decide +kernel
theorem dX12_isAllHad_29 : decode cX12_isAllHad 29 = .ok (.iload_n 1, 1) := by decide +kernel
theorem dX12_isAllHad_30 : decode cX12_isAllHad 30 = .ok (.iconst 1, 1) := by decide +kernel
theorem dX12_isAllHad_31 : decode cX12_isAllHad 31 = .ok (.aload_n 0, 1) := by decide +kernel
theorem dX12_isAllHad_32 : decode cX12_isAllHad 32 = .ok (.getfield 9, 3) := by decide +kernel
theorem dX12_isAllHad_35 : decode cX12_isAllHad 35 = .ok (.ishl, 1) := by decide +kernel
theorem dX12_isAllHad_36 : decode cX12_isAllHad 36 = .ok (.iconst 1, 1) := by decide +kernel
theorem dX12_isAllHad_37 : decode cX12_isAllHad 37 = .ok (.isub, 1) := by decide +kernel
theorem dX12_isAllHad_38 : decode cX12_isAllHad 38 = .ok (.if_icmp .ne 7, 3) := by decide +kernel
theorem dX12_isAllHad_41 : decode cX12_isAllHad 41 = .ok (.iconst 1, 1) := by decide +kernel
theorem dX12_isAllHad_42 : decode cX12_isAllHad 42 = .ok (.goto 4, 3) := by decide +kernel
theorem dX12_isAllHad_45 : decode cX12_isAllHad 45 = .ok (.iconst 0, 1) := by decide +kernel
theorem dX12_isAllHad_46 : decode cX12_isAllHad 46 = .ok (.ireturn, 1) := by decide +kernel
theorem dX12_isAt_0 : decode cX12_isAt 0 = .ok (.aload_n 0, 1) := by decide +kernel
theorem dX12_isAt_1 : decode cX12_isAt 1 = .ok (.getfield 264, 3) := by decide +kernel
theorem dX12_isAt_4 : decode cX12_isAt 4 = .ok (.aload_n 0, 1) := by decide +kernel
theorem dX12_isAt_5 : decode cX12_isAt 5 = .ok (.getfield 267, 3) := by decide +kernel
theorem dX12_isAt_8 : decode cX12_isAt 8 = .ok (.if_icmp .ge 27, 3) := by decide +kernel
theorem dX12_isAt_11 : decode cX12_isAt 11 = .ok (.aload_n 0, 1) := by decide +kernel
theorem dX12_isAt_12 : decode cX12_isAt 12 = .ok (.getfield 49, 3) := by decide +kernel
theorem dX12_isAt_15 : decode cX12_isAt 15 = .ok (.aload_n 0, 1) := by decide +kernel
theorem dX12_isAt_16 : decode cX12_isAt 16 = .ok (.getfield 264, 3) := by decide +kernel
theorem dX12_isAt_19 : decode cX12_isAt 19 = .ok (.iaload, 1) := by decide +kernel
theorem dX12_isAt_20 : decode cX12_isAt 20 = .ok (.i2l, 1) := by decide +kernel
theorem dX12_isAt_21 : decode cX12_isAt 21 = .ok (.iload_n 1, 1) := by decide +kernel
theorem dX12_isAt_22 : decode cX12_isAt 22 = .ok (.i2l, 1) := by decide +kernel
theorem dX12_isAt_23 : decode cX12_isAt 23 = .ok (.iload_n 2, 1) := by decide +kernel
theorem dX12_isAt_24 : decode cX12_isAt 24 = .ok (.i2l, 1) := by decide +kernel
theorem dX12_isAt_25 : decode cX12_isAt 25 = .ok (.invokestatic 70, 3) := by decide +kernel
theorem dX12_isAt_28 : decode cX12_isAt 28 = .ok (.ifCond .eq 7, 3) := by decide +kernel
theorem dX12_isAt_31 : decode cX12_isAt 31 = .ok (.iconst 1, 1) := by decide +kernel
theorem dX12_isAt_32 : decode cX12_isAt 32 = .ok (.goto 4, 3) := by decide +kernel
theorem dX12_isAt_35 : decode cX12_isAt 35 = .ok (.iconst 0, 1) := by decide +kernel
theorem dX12_isAt_36 : decode cX12_isAt 36 = .ok (.ireturn, 1) := by decide +kernel
theorem dX12_isAtom_0 : decode cX12_isAtom 0 = .ok (.iload_n 1, 1) := by decide +kernel
theorem dX12_isAtom_1 : decode cX12_isAtom 1 = .ok (.i2l, 1) := by decide +kernel
theorem dX12_isAtom_2 : decode cX12_isAtom 2 = .ok (.lconst 0, 1) := by decide +kernel
theorem dX12_isAtom_3 : decode cX12_isAtom 3 = .ok (.aload_n 0, 1) := by decide +kernel
theorem dX12_isAtom_4 : decode cX12_isAtom 4 = .ok (.getfield 9, 3) := by decide +kernel
theorem dX12_isAtom_7 : decode cX12_isAtom 7 = .ok (.iconst 1, 1) := by decide +kernel
theorem dX12_isAtom_8 : decode cX12_isAtom 8 = .ok (.isub, 1) := by decide +kernel
theorem dX12_isAtom_9 : decode cX12_isAtom 9 = .ok (.i2l, 1) := by decide +kernel
theorem dX12_isAtom_10 : decode cX12_isAtom 10 = .ok (.invokestatic 70, 3) := by decide +kernel
theorem dX12_isAtom_13 : decode cX12_isAtom 13 = .ok (.ireturn, 1) := by decide +kernel
theorem dX12_isBarred_0 : decode cX12_isBarred 0 = .ok (.aload_n 0, 1) := by decide +kernel
theorem dX12_isBarred_1 : decode cX12_isBarred 1 = .ok (.getfield 74, 3) := by decide +kernel
theorem dX12_isBarred_4 : decode cX12_isBarred 4 = .ok (.ifCond .eq 12, 3) := by decide +kernel
theorem dX12_isBarred_7 : decode cX12_isBarred 7 = .ok (.aload_n 0, 1) := by decide +kernel
theorem dX12_isBarred_8 : decode cX12_isBarred 8 = .ok (.getfield 23, 3) := by decide +kernel
theorem dX12_isBarred_11 : decode cX12_isBarred 11 = .ok (.iconst 3, 1) := by decide +kernel
theorem dX12_isBarred_12 : decode cX12_isBarred 12 = .ok (.iaload, 1) := by decide +kernel
theorem dX12_isBarred_13 : decode cX12_isBarred 13 = .ok (.ifCond .ne 5, 3) := by decide +kernel
theorem dX12_isBarred_16 : decode cX12_isBarred 16 = .ok (.iconst 0, 1) := by decide +kernel
theorem dX12_isBarred_17 : decode cX12_isBarred 17 = .ok (.ireturn, 1) := by decide +kernel
theorem dX12_isBarred_18 : decode cX12_isBarred 18 = .ok (.aload_n 0, 1) := by decide +kernel
theorem dX12_isBarred_19 : decode cX12_isBarred 19 = .ok (.iconst 3, 1) := by decide +kernel
theorem dX12_isBarred_20 : decode cX12_isBarred 20 = .ok (.iload_n 1, 1) := by decide +kernel
theorem dX12_isBarred_21 : decode cX12_isBarred 21 = .ok (.iconst 0, 1) := by decide +kernel
theorem dX12_isBarred_22 : decode cX12_isBarred 22 = .ok (.invokevirtual 189, 3) := by decide +kernel
theorem dX12_isBarred_25 : decode cX12_isBarred 25 = .ok (.aload_n 0, 1) := by decide +kernel
theorem dX12_isBarred_26 : decode cX12_isBarred 26 = .ok (.getfield 180, 3) := by decide +kernel
theorem dX12_isBarred_29 : decode cX12_isBarred 29 = .ok (.bipush (-5), 2) := by decide +kernel
theorem dX12_isBarred_31 : decode cX12_isBarred 31 = .ok (.if_icmp .eq 7, 3) := by decide +kernel
theorem dX12_isBarred_34 : decode cX12_isBarred 34 = .ok (.iconst 1, 1) := by decide +kernel
theorem dX12_isBarred_35 : decode cX12_isBarred 35 = .ok (.goto 4, 3) := by decide +kernel
theorem dX12_isBarred_38 : decode cX12_isBarred 38 = .ok (.iconst 0, 1) := by decide +kernel
theorem dX12_isBarred_39 : decode cX12_isBarred 39 = .ok (.ireturn, 1) := by decide +kernel
theorem dX12_isDone_0 : decode cX12_isDone 0 = .ok (.iload_n 1, 1) := by decide +kernel
theorem dX12_isDone_1 : decode cX12_isDone 1 = .ok (.lookupswitch 71 #[(0, 27), (1, 46)], 27) := by decide +kernel
theorem dX12_isDone_28 : decode cX12_isDone 28 = .ok (.aload_n 0, 1) := by decide +kernel
theorem dX12_isDone_29 : decode cX12_isDone 29 = .ok (.aload_n 0, 1) := by decide +kernel
theorem dX12_isDone_30 : decode cX12_isDone 30 = .ok (.getfield 52, 3) := by decide +kernel
theorem dX12_isDone_33 : decode cX12_isDone 33 = .ok (.iconst 0, 1) := by decide +kernel
theorem dX12_isDone_34 : decode cX12_isDone 34 = .ok (.iaload, 1) := by decide +kernel
theorem dX12_isDone_35 : decode cX12_isDone 35 = .ok (.invokevirtual 276, 3) := by decide +kernel
theorem dX12_isDone_38 : decode cX12_isDone 38 = .ok (.ifCond .lt 7, 3) := by decide +kernel
theorem dX12_isDone_41 : decode cX12_isDone 41 = .ok (.iconst 1, 1) := by decide +kernel
theorem dX12_isDone_42 : decode cX12_isDone 42 = .ok (.goto 4, 3) := by decide +kernel
theorem dX12_isDone_45 : decode cX12_isDone 45 = .ok (.iconst 0, 1) := by decide +kernel
theorem dX12_isDone_46 : decode cX12_isDone 46 = .ok (.ireturn, 1) := by decide +kernel
theorem dX12_isDone_47 : decode cX12_isDone 47 = .ok (.aload_n 0, 1) := by decide +kernel
theorem dX12_isDone_48 : decode cX12_isDone 48 = .ok (.aload_n 0, 1) := by decide +kernel
theorem dX12_isDone_49 : decode cX12_isDone 49 = .ok (.getfield 52, 3) := by decide +kernel
theorem dX12_isDone_52 : decode cX12_isDone 52 = .ok (.iconst 0, 1) := by decide +kernel
theorem dX12_isDone_53 : decode cX12_isDone 53 = .ok (.iaload, 1) := by decide +kernel
theorem dX12_isDone_54 : decode cX12_isDone 54 = .ok (.aload_n 0, 1) := by decide +kernel
theorem dX12_isDone_55 : decode cX12_isDone 55 = .ok (.getfield 52, 3) := by decide +kernel
theorem dX12_isDone_58 : decode cX12_isDone 58 = .ok (.iconst 1, 1) := by decide +kernel
theorem dX12_isDone_59 : decode cX12_isDone 59 = .ok (.iaload, 1) := by decide +kernel
theorem dX12_isDone_60 : decode cX12_isDone 60 = .ok (.invokevirtual 278, 3) := by decide +kernel
theorem dX12_isDone_63 : decode cX12_isDone 63 = .ok (.ifCond .lt 7, 3) := by decide +kernel
theorem dX12_isDone_66 : decode cX12_isDone 66 = .ok (.iconst 1, 1) := by decide +kernel
theorem dX12_isDone_67 : decode cX12_isDone 67 = .ok (.goto 4, 3) := by decide +kernel
theorem dX12_isDone_70 : decode cX12_isDone 70 = .ok (.iconst 0, 1) := by decide +kernel
theorem dX12_isDone_71 : decode cX12_isDone 71 = .ok (.ireturn, 1) := by decide +kernel
theorem dX12_isDone_72 : decode cX12_isDone 72 = .ok (.aload_n 0, 1) := by decide +kernel
theorem dX12_isDone_73 : decode cX12_isDone 73 = .ok (.aload_n 0, 1) := by decide +kernel
theorem dX12_isDone_74 : decode cX12_isDone 74 = .ok (.getfield 52, 3) := by decide +kernel
theorem dX12_isDone_77 : decode cX12_isDone 77 = .ok (.iconst 0, 1) := by decide +kernel
theorem dX12_isDone_78 : decode cX12_isDone 78 = .ok (.iaload, 1) := by decide +kernel
theorem dX12_isDone_79 : decode cX12_isDone 79 = .ok (.aload_n 0, 1) := by decide +kernel
theorem dX12_isDone_80 : decode cX12_isDone 80 = .ok (.getfield 52, 3) := by decide +kernel
theorem dX12_isDone_83 : decode cX12_isDone 83 = .ok (.iconst 1, 1) := by decide +kernel
theorem dX12_isDone_84 : decode cX12_isDone 84 = .ok (.iaload, 1) := by decide +kernel
theorem dX12_isDone_85 : decode cX12_isDone 85 = .ok (.aload_n 0, 1) := by decide +kernel
theorem dX12_isDone_86 : decode cX12_isDone 86 = .ok (.getfield 52, 3) := by decide +kernel
theorem dX12_isDone_89 : decode cX12_isDone 89 = .ok (.iconst 2, 1) := by decide +kernel
theorem dX12_isDone_90 : decode cX12_isDone 90 = .ok (.iaload, 1) := by decide +kernel
theorem dX12_isDone_91 : decode cX12_isDone 91 = .ok (.iload_n 1, 1) := by decide +kernel
theorem dX12_isDone_92 : decode cX12_isDone 92 = .ok (.iconst 2, 1) := by decide +kernel
theorem dX12_isDone_93 : decode cX12_isDone 93 = .ok (.if_icmp .ne 7, 3) := by decide +kernel
theorem dX12_isDone_96 : decode cX12_isDone 96 = .ok (.iconst 1, 1) := by decide +kernel
theorem dX12_isDone_97 : decode cX12_isDone 97 = .ok (.goto 4, 3) := by decide +kernel
theorem dX12_isDone_100 : decode cX12_isDone 100 = .ok (.iconst 0, 1) := by decide +kernel
theorem dX12_isDone_101 : decode cX12_isDone 101 = .ok (.invokevirtual 281, 3) := by decide +kernel
theorem dX12_isDone_104 : decode cX12_isDone 104 = .ok (.ifCond .lt 7, 3) := by decide +kernel
theorem dX12_isDone_107 : decode cX12_isDone 107 = .ok (.iconst 1, 1) := by decide +kernel
theorem dX12_isDone_108 : decode cX12_isDone 108 = .ok (.goto 4, 3) := by decide +kernel
theorem dX12_isDone_111 : decode cX12_isDone 111 = .ok (.iconst 0, 1) := by decide +kernel
theorem dX12_isDone_112 : decode cX12_isDone 112 = .ok (.ireturn, 1) := by decide +kernel
theorem dX12_isEquivalence_0 : decode cX12_isEquivalence 0 = .ok (.iload_n 1, 1) := by decide +kernel
theorem dX12_isEquivalence_1 : decode cX12_isEquivalence 1 = .ok (.iconst 0, 1) := by decide +kernel
theorem dX12_isEquivalence_2 : decode cX12_isEquivalence 2 = .ok (.invokestatic 87, 3) := by decide +kernel
theorem dX12_isEquivalence_5 : decode cX12_isEquivalence 5 = .ok (.ifCond .eq 29, 3) := by decide +kernel
theorem dX12_isEquivalence_8 : decode cX12_isEquivalence 8 = .ok (.aload_n 0, 1) := by decide +kernel
theorem dX12_isEquivalence_9 : decode cX12_isEquivalence 9 = .ok (.iload_n 1, 1) := by decide +kernel
theorem dX12_isEquivalence_10 : decode cX12_isEquivalence 10 = .ok (.invokevirtual 94, 3) := by decide +kernel
theorem dX12_isEquivalence_13 : decode cX12_isEquivalence 13 = .ok (.iload_n 1, 1) := by decide +kernel
theorem dX12_isEquivalence_14 : decode cX12_isEquivalence 14 = .ok (.if_icmp .ne 20, 3) := by decide +kernel
theorem dX12_isEquivalence_17 : decode cX12_isEquivalence 17 = .ok (.aload_n 0, 1) := by decide +kernel
theorem dX12_isEquivalence_18 : decode cX12_isEquivalence 18 = .ok (.iload_n 1, 1) := by decide +kernel
theorem dX12_isEquivalence_19 : decode cX12_isEquivalence 19 = .ok (.iload_n 1, 1) := by decide +kernel
theorem dX12_isEquivalence_20 : decode cX12_isEquivalence 20 = .ok (.invokevirtual 109, 3) := by decide +kernel
theorem dX12_isEquivalence_23 : decode cX12_isEquivalence 23 = .ok (.iload_n 1, 1) := by decide +kernel
theorem dX12_isEquivalence_24 : decode cX12_isEquivalence 24 = .ok (.iconst (-1), 1) := by decide +kernel
theorem dX12_isEquivalence_25 : decode cX12_isEquivalence 25 = .ok (.ixor, 1) := by decide +kernel
theorem dX12_isEquivalence_26 : decode cX12_isEquivalence 26 = .ok (.iand, 1) := by decide +kernel
theorem dX12_isEquivalence_27 : decode cX12_isEquivalence 27 = .ok (.ifCond .ne 7, 3) := by decide +kernel
theorem dX12_isEquivalence_30 : decode cX12_isEquivalence 30 = .ok (.iconst 1, 1) := by decide +kernel
theorem dX12_isEquivalence_31 : decode cX12_isEquivalence 31 = .ok (.goto 4, 3) := by decide +kernel
theorem dX12_isEquivalence_34 : decode cX12_isEquivalence 34 = .ok (.iconst 0, 1) := by decide +kernel
theorem dX12_isEquivalence_35 : decode cX12_isEquivalence 35 = .ok (.ireturn, 1) := by decide +kernel
theorem dX12_isFillOf_0 : decode cX12_isFillOf 0 = .ok (.aload_n 0, 1) := by decide +kernel
theorem dX12_isFillOf_1 : decode cX12_isFillOf 1 = .ok (.iconst 4, 1) := by decide +kernel
theorem dX12_isFillOf_2 : decode cX12_isFillOf 2 = .ok (.iload_n 1, 1) := by decide +kernel
theorem dX12_isFillOf_3 : decode cX12_isFillOf 3 = .ok (.invokevirtual 211, 3) := by decide +kernel
theorem dX12_isFillOf_6 : decode cX12_isFillOf 6 = .ok (.ifCond .eq 54, 3) := by decide +kernel
theorem dX12_isFillOf_9 : decode cX12_isFillOf 9 = .ok (.aload_n 0, 1) := by decide +kernel
theorem dX12_isFillOf_10 : decode cX12_isFillOf 10 = .ok (.iconst 4, 1) := by decide +kernel
theorem dX12_isFillOf_11 : decode cX12_isFillOf 11 = .ok (.iload_n 2, 1) := by decide +kernel
theorem dX12_isFillOf_12 : decode cX12_isFillOf 12 = .ok (.invokevirtual 148, 3) := by decide +kernel
theorem dX12_isFillOf_15 : decode cX12_isFillOf 15 = .ok (.ifCond .eq 45, 3) := by decide +kernel
theorem dX12_isFillOf_18 : decode cX12_isFillOf 18 = .ok (.iload_n 2, 1) := by decide +kernel
theorem dX12_isFillOf_19 : decode cX12_isFillOf 19 = .ok (.iload_n 1, 1) := by decide +kernel
theorem dX12_isFillOf_20 : decode cX12_isFillOf 20 = .ok (.sipush 1000, 3) := by decide +kernel
theorem dX12_isFillOf_23 : decode cX12_isFillOf 23 = .ok (.idiv, 1) := by decide +kernel
theorem dX12_isFillOf_24 : decode cX12_isFillOf 24 = .ok (.invokestatic 138, 3) := by decide +kernel
theorem dX12_isFillOf_27 : decode cX12_isFillOf 27 = .ok (.iload_n 1, 1) := by decide +kernel
theorem dX12_isFillOf_28 : decode cX12_isFillOf 28 = .ok (.bipush 10, 2) := by decide +kernel
theorem dX12_isFillOf_30 : decode cX12_isFillOf 30 = .ok (.idiv, 1) := by decide +kernel
theorem dX12_isFillOf_31 : decode cX12_isFillOf 31 = .ok (.bipush 10, 2) := by decide +kernel
theorem dX12_isFillOf_33 : decode cX12_isFillOf 33 = .ok (.irem, 1) := by decide +kernel
theorem dX12_isFillOf_34 : decode cX12_isFillOf 34 = .ok (.if_icmp .ne 26, 3) := by decide +kernel
theorem dX12_isFillOf_37 : decode cX12_isFillOf 37 = .ok (.iload_n 2, 1) := by decide +kernel
theorem dX12_isFillOf_38 : decode cX12_isFillOf 38 = .ok (.iload_n 1, 1) := by decide +kernel
theorem dX12_isFillOf_39 : decode cX12_isFillOf 39 = .ok (.bipush 100, 2) := by decide +kernel
theorem dX12_isFillOf_41 : decode cX12_isFillOf 41 = .ok (.idiv, 1) := by decide +kernel
theorem dX12_isFillOf_42 : decode cX12_isFillOf 42 = .ok (.bipush 10, 2) := by decide +kernel
theorem dX12_isFillOf_44 : decode cX12_isFillOf 44 = .ok (.irem, 1) := by decide +kernel
theorem dX12_isFillOf_45 : decode cX12_isFillOf 45 = .ok (.invokestatic 138, 3) := by decide +kernel
theorem dX12_isFillOf_48 : decode cX12_isFillOf 48 = .ok (.aload_n 0, 1) := by decide +kernel
theorem dX12_isFillOf_49 : decode cX12_isFillOf 49 = .ok (.getfield 15, 3) := by decide +kernel
theorem dX12_isFillOf_52 : decode cX12_isFillOf 52 = .ok (.iload_n 1, 1) := by decide +kernel
theorem dX12_isFillOf_53 : decode cX12_isFillOf 53 = .ok (.bipush 10, 2) := by decide +kernel
theorem dX12_isFillOf_55 : decode cX12_isFillOf 55 = .ok (.irem, 1) := by decide +kernel
theorem dX12_isFillOf_56 : decode cX12_isFillOf 56 = .ok (.iaload, 1) := by decide +kernel
theorem dX12_isFillOf_57 : decode cX12_isFillOf 57 = .ok (.if_icmp .eq 5, 3) := by decide +kernel
theorem dX12_isFillOf_60 : decode cX12_isFillOf 60 = .ok (.iconst 0, 1) := by decide +kernel
theorem dX12_isFillOf_61 : decode cX12_isFillOf 61 = .ok (.ireturn, 1) := by decide +kernel
theorem dX12_isFillOf_62 : decode cX12_isFillOf 62 = .ok (.aload_n 0, 1) := by decide +kernel
theorem dX12_isFillOf_63 : decode cX12_isFillOf 63 = .ok (.iconst 4, 1) := by decide +kernel
theorem dX12_isFillOf_64 : decode cX12_isFillOf 64 = .ok (.iconst 5, 1) := by decide +kernel
theorem dX12_isFillOf_65 : decode cX12_isFillOf 65 = .ok (.invokevirtual 161, 3) := by decide +kernel
theorem dX12_isFillOf_68 : decode cX12_isFillOf 68 = .ok (.aload_n 0, 1) := by decide +kernel
theorem dX12_isFillOf_69 : decode cX12_isFillOf 69 = .ok (.iconst 5, 1) := by decide +kernel
theorem dX12_isFillOf_70 : decode cX12_isFillOf 70 = .ok (.iload_n 2, 1) := by decide +kernel
theorem dX12_isFillOf_71 : decode cX12_isFillOf 71 = .ok (.invokevirtual 151, 3) := by decide +kernel
theorem dX12_isFillOf_74 : decode cX12_isFillOf 74 = .ok (.aload_n 0, 1) := by decide +kernel
theorem dX12_isFillOf_75 : decode cX12_isFillOf 75 = .ok (.iconst 5, 1) := by decide +kernel
theorem dX12_isFillOf_76 : decode cX12_isFillOf 76 = .ok (.invokevirtual 164, 3) := by decide +kernel
theorem dX12_isFillOf_79 : decode cX12_isFillOf 79 = .ok (.bipush (-5), 2) := by decide +kernel
theorem dX12_isFillOf_81 : decode cX12_isFillOf 81 = .ok (.if_icmp .ne 15, 3) := by decide +kernel
theorem dX12_isFillOf_84 : decode cX12_isFillOf 84 = .ok (.aload_n 0, 1) := by decide +kernel
theorem dX12_isFillOf_85 : decode cX12_isFillOf 85 = .ok (.iconst 5, 1) := by decide +kernel
theorem dX12_isFillOf_86 : decode cX12_isFillOf 86 = .ok (.invokevirtual 202, 3) := by decide +kernel
theorem dX12_isFillOf_89 : decode cX12_isFillOf 89 = .ok (.ifCond .ne 7, 3) := by decide +kernel
theorem dX12_isFillOf_92 : decode cX12_isFillOf 92 = .ok (.iconst 1, 1) := by decide +kernel
theorem dX12_isFillOf_93 : decode cX12_isFillOf 93 = .ok (.goto 4, 3) := by decide +kernel
theorem dX12_isFillOf_96 : decode cX12_isFillOf 96 = .ok (.iconst 0, 1) := by decide +kernel
theorem dX12_isFillOf_97 : decode cX12_isFillOf 97 = .ok (.ireturn, 1) := by decide +kernel
theorem dX12_isFillable_0 : decode cX12_isFillable 0 = .ok (.iconst 1, 1) := by decide +kernel
theorem dX12_isFillable_1 : decode cX12_isFillable 1 = .ok (.istore_n 3, 1) := by decide +kernel
theorem dX12_isFillable_2 : decode cX12_isFillable 2 = .ok (.iconst 1, 1) := by decide +kernel
theorem dX12_isFillable_3 : decode cX12_isFillable 3 = .ok (.istore 4, 2) := by decide +kernel
theorem dX12_isFillable_5 : decode cX12_isFillable 5 = .ok (.iload 4, 2) := by decide +kernel
theorem dX12_isFillable_7 : decode cX12_isFillable 7 = .ok (.aload_n 0, 1) := by decide +kernel
theorem dX12_isFillable_8 : decode cX12_isFillable 8 = .ok (.getfield 23, 3) := by decide +kernel
theorem dX12_isFillable_11 : decode cX12_isFillable 11 = .ok (.iconst 5, 1) := by decide +kernel
theorem dX12_isFillable_12 : decode cX12_isFillable 12 = .ok (.iaload, 1) := by decide +kernel
theorem dX12_isFillable_13 : decode cX12_isFillable 13 = .ok (.if_icmp .ge 14, 3) := by decide +kernel
theorem dX12_isFillable_16 : decode cX12_isFillable 16 = .ok (.iload_n 3, 1) := by decide +kernel
theorem dX12_isFillable_17 : decode cX12_isFillable 17 = .ok (.bipush 10, 2) := by decide +kernel
theorem dX12_isFillable_19 : decode cX12_isFillable 19 = .ok (.imul, 1) := by decide +kernel
theorem dX12_isFillable_20 : decode cX12_isFillable 20 = .ok (.istore_n 3, 1) := by decide +kernel
theorem dX12_isFillable_21 : decode cX12_isFillable 21 = .ok (.iinc 4 1, 3) := by decide +kernel
theorem dX12_isFillable_24 : decode cX12_isFillable 24 = .ok (.goto (-19), 3) := by decide +kernel
theorem dX12_isFillable_27 : decode cX12_isFillable 27 = .ok (.aload_n 0, 1) := by decide +kernel
theorem dX12_isFillable_28 : decode cX12_isFillable 28 = .ok (.aload_n 0, 1) := by decide +kernel
theorem dX12_isFillable_29 : decode cX12_isFillable 29 = .ok (.getfield 23, 3) := by decide +kernel
theorem dX12_isFillable_32 : decode cX12_isFillable 32 = .ok (.iconst 5, 1) := by decide +kernel
theorem dX12_isFillable_33 : decode cX12_isFillable 33 = .ok (.iaload, 1) := by decide +kernel
theorem dX12_isFillable_34 : decode cX12_isFillable 34 = .ok (.iconst 1, 1) := by decide +kernel
theorem dX12_isFillable_35 : decode cX12_isFillable 35 = .ok (.isub, 1) := by decide +kernel
theorem dX12_isFillable_36 : decode cX12_isFillable 36 = .ok (.iload_n 1, 1) := by decide +kernel
theorem dX12_isFillable_37 : decode cX12_isFillable 37 = .ok (.iload_n 3, 1) := by decide +kernel
theorem dX12_isFillable_38 : decode cX12_isFillable 38 = .ok (.iconst 0, 1) := by decide +kernel
theorem dX12_isFillable_39 : decode cX12_isFillable 39 = .ok (.iload_n 2, 1) := by decide +kernel
theorem dX12_isFillable_40 : decode cX12_isFillable 40 = .ok (.invokevirtual 199, 3) := by decide +kernel
theorem dX12_isFillable_43 : decode cX12_isFillable 43 = .ok (.ireturn, 1) := by decide +kernel
theorem dX12_isFilled_0 : decode cX12_isFilled 0 = .ok (.aload_n 0, 1) := by decide +kernel
theorem dX12_isFilled_1 : decode cX12_isFilled 1 = .ok (.getfield 174, 3) := by decide +kernel
theorem dX12_isFilled_4 : decode cX12_isFilled 4 = .ok (.istore_n 3, 1) := by decide +kernel
theorem dX12_isFilled_5 : decode cX12_isFilled 5 = .ok (.aload_n 0, 1) := by decide +kernel
theorem dX12_isFilled_6 : decode cX12_isFilled 6 = .ok (.getfield 177, 3) := by decide +kernel
theorem dX12_isFilled_9 : decode cX12_isFilled 9 = .ok (.istore 4, 2) := by decide +kernel
theorem dX12_isFilled_11 : decode cX12_isFilled 11 = .ok (.aload_n 0, 1) := by decide +kernel
theorem dX12_isFilled_12 : decode cX12_isFilled 12 = .ok (.getfield 180, 3) := by decide +kernel
theorem dX12_isFilled_15 : decode cX12_isFilled 15 = .ok (.istore 5, 2) := by decide +kernel
theorem dX12_isFilled_17 : decode cX12_isFilled 17 = .ok (.aload_n 0, 1) := by decide +kernel
theorem dX12_isFilled_18 : decode cX12_isFilled 18 = .ok (.getfield 23, 3) := by decide +kernel
theorem dX12_isFilled_21 : decode cX12_isFilled 21 = .ok (.iconst 5, 1) := by decide +kernel
theorem dX12_isFilled_22 : decode cX12_isFilled 22 = .ok (.dup2, 1) := by decide +kernel
theorem dX12_isFilled_23 : decode cX12_isFilled 23 = .ok (.iaload, 1) := by decide +kernel
theorem dX12_isFilled_24 : decode cX12_isFilled 24 = .ok (.iconst 1, 1) := by decide +kernel
theorem dX12_isFilled_25 : decode cX12_isFilled 25 = .ok (.iadd, 1) := by decide +kernel
theorem dX12_isFilled_26 : decode cX12_isFilled 26 = .ok (.iastore, 1) := by decide +kernel
theorem dX12_isFilled_27 : decode cX12_isFilled 27 = .ok (.aload_n 0, 1) := by decide +kernel
theorem dX12_isFilled_28 : decode cX12_isFilled 28 = .ok (.iconst 5, 1) := by decide +kernel
theorem dX12_isFilled_29 : decode cX12_isFilled 29 = .ok (.invokevirtual 202, 3) := by decide +kernel
theorem dX12_isFilled_32 : decode cX12_isFilled 32 = .ok (.ifCond .ne 7, 3) := by decide +kernel
theorem dX12_isFilled_35 : decode cX12_isFilled 35 = .ok (.iconst 1, 1) := by decide +kernel
theorem dX12_isFilled_36 : decode cX12_isFilled 36 = .ok (.goto 4, 3) := by decide +kernel
theorem dX12_isFilled_39 : decode cX12_isFilled 39 = .ok (.iconst 0, 1) := by decide +kernel
theorem dX12_isFilled_40 : decode cX12_isFilled 40 = .ok (.istore 6, 2) := by decide +kernel
theorem dX12_isFilled_42 : decode cX12_isFilled 42 = .ok (.aload_n 0, 1) := by decide +kernel
theorem dX12_isFilled_43 : decode cX12_isFilled 43 = .ok (.iload_n 3, 1) := by decide +kernel
theorem dX12_isFilled_44 : decode cX12_isFilled 44 = .ok (.putfield 174, 3) := by decide +kernel
theorem dX12_isFilled_47 : decode cX12_isFilled 47 = .ok (.aload_n 0, 1) := by decide +kernel
theorem dX12_isFilled_48 : decode cX12_isFilled 48 = .ok (.iload 4, 2) := by decide +kernel
theorem dX12_isFilled_50 : decode cX12_isFilled 50 = .ok (.putfield 177, 3) := by decide +kernel
theorem dX12_isFilled_53 : decode cX12_isFilled 53 = .ok (.aload_n 0, 1) := by decide +kernel
theorem dX12_isFilled_54 : decode cX12_isFilled 54 = .ok (.iload 5, 2) := by decide +kernel
theorem dX12_isFilled_56 : decode cX12_isFilled 56 = .ok (.putfield 180, 3) := by decide +kernel
theorem dX12_isFilled_59 : decode cX12_isFilled 59 = .ok (.iconst 0, 1) := by decide +kernel
theorem dX12_isFilled_60 : decode cX12_isFilled 60 = .ok (.istore 7, 2) := by decide +kernel
theorem dX12_isFilled_62 : decode cX12_isFilled 62 = .ok (.iload 6, 2) := by decide +kernel
theorem dX12_isFilled_64 : decode cX12_isFilled 64 = .ok (.ifCond .eq 60, 3) := by decide +kernel
theorem dX12_isFilled_67 : decode cX12_isFilled 67 = .ok (.iload_n 2, 1) := by decide +kernel
theorem dX12_isFilled_68 : decode cX12_isFilled 68 = .ok (.iconst (-1), 1) := by decide +kernel
theorem dX12_isFilled_69 : decode cX12_isFilled 69 = .ok (.if_icmp .ne 55, 3) := by decide +kernel
theorem dX12_isFilled_72 : decode cX12_isFilled 72 = .ok (.aload_n 0, 1) := by decide +kernel
theorem dX12_isFilled_73 : decode cX12_isFilled 73 = .ok (.aload_n 0, 1) := by decide +kernel
theorem dX12_isFilled_74 : decode cX12_isFilled 74 = .ok (.getfield 174, 3) := by decide +kernel
theorem dX12_isFilled_77 : decode cX12_isFilled 77 = .ok (.aload_n 0, 1) := by decide +kernel
theorem dX12_isFilled_78 : decode cX12_isFilled 78 = .ok (.getfield 177, 3) := by decide +kernel
theorem dX12_isFilled_81 : decode cX12_isFilled 81 = .ok (.if_icmp .ne 7, 3) := by decide +kernel
theorem dX12_isFilled_84 : decode cX12_isFilled 84 = .ok (.iload_n 1, 1) := by decide +kernel
theorem dX12_isFilled_85 : decode cX12_isFilled 85 = .ok (.goto 7, 3) := by decide +kernel
theorem dX12_isFilled_88 : decode cX12_isFilled 88 = .ok (.aload_n 0, 1) := by decide +kernel
theorem dX12_isFilled_89 : decode cX12_isFilled 89 = .ok (.getfield 180, 3) := by decide +kernel
theorem dX12_isFilled_92 : decode cX12_isFilled 92 = .ok (.putfield 180, 3) := by decide +kernel
theorem dX12_isFilled_95 : decode cX12_isFilled 95 = .ok (.aload_n 0, 1) := by decide +kernel
theorem dX12_isFilled_96 : decode cX12_isFilled 96 = .ok (.dup, 1) := by decide +kernel
theorem dX12_isFilled_97 : decode cX12_isFilled 97 = .ok (.getfield 174, 3) := by decide +kernel
theorem dX12_isFilled_100 : decode cX12_isFilled 100 = .ok (.iconst 1, 1) := by decide +kernel
theorem dX12_isFilled_101 : decode cX12_isFilled 101 = .ok (.iadd, 1) := by decide +kernel
theorem dX12_isFilled_102 : decode cX12_isFilled 102 = .ok (.putfield 174, 3) := by decide +kernel
theorem dX12_isFilled_105 : decode cX12_isFilled 105 = .ok (.aload_n 0, 1) := by decide +kernel
theorem dX12_isFilled_106 : decode cX12_isFilled 106 = .ok (.getfield 180, 3) := by decide +kernel
theorem dX12_isFilled_109 : decode cX12_isFilled 109 = .ok (.bipush (-5), 2) := by decide +kernel
theorem dX12_isFilled_111 : decode cX12_isFilled 111 = .ok (.if_icmp .eq 7, 3) := by decide +kernel
theorem dX12_isFilled_114 : decode cX12_isFilled 114 = .ok (.iconst 1, 1) := by decide +kernel
theorem dX12_isFilled_115 : decode cX12_isFilled 115 = .ok (.goto 4, 3) := by decide +kernel
theorem dX12_isFilled_118 : decode cX12_isFilled 118 = .ok (.iconst 0, 1) := by decide +kernel
theorem dX12_isFilled_119 : decode cX12_isFilled 119 = .ok (.istore 7, 2) := by decide +kernel
theorem dX12_isFilled_121 : decode cX12_isFilled 121 = .ok (.goto 15, 3) := by decide +kernel
theorem dX12_isFilled_124 : decode cX12_isFilled 124 = .ok (.iload 6, 2) := by decide +kernel
theorem dX12_isFilled_126 : decode cX12_isFilled 126 = .ok (.ifCond .eq 10, 3) := by decide +kernel
theorem dX12_isFilled_129 : decode cX12_isFilled 129 = .ok (.aload_n 0, 1) := by decide +kernel
theorem dX12_isFilled_130 : decode cX12_isFilled 130 = .ok (.iload_n 2, 1) := by decide +kernel
theorem dX12_isFilled_131 : decode cX12_isFilled 131 = .ok (.invokevirtual 205, 3) := by decide +kernel
theorem dX12_isFilled_134 : decode cX12_isFilled 134 = .ok (.istore 7, 2) := by decide +kernel
theorem dX12_isFilled_136 : decode cX12_isFilled 136 = .ok (.aload_n 0, 1) := by decide +kernel
theorem dX12_isFilled_137 : decode cX12_isFilled 137 = .ok (.getfield 23, 3) := by decide +kernel
theorem dX12_isFilled_140 : decode cX12_isFilled 140 = .ok (.iconst 5, 1) := by decide +kernel
theorem dX12_isFilled_141 : decode cX12_isFilled 141 = .ok (.dup2, 1) := by decide +kernel
theorem dX12_isFilled_142 : decode cX12_isFilled 142 = .ok (.iaload, 1) := by decide +kernel
theorem dX12_isFilled_143 : decode cX12_isFilled 143 = .ok (.iconst 1, 1) := by decide +kernel
theorem dX12_isFilled_144 : decode cX12_isFilled 144 = .ok (.isub, 1) := by decide +kernel
theorem dX12_isFilled_145 : decode cX12_isFilled 145 = .ok (.iastore, 1) := by decide +kernel
theorem dX12_isFilled_146 : decode cX12_isFilled 146 = .ok (.iload 7, 2) := by decide +kernel
theorem dX12_isFilled_148 : decode cX12_isFilled 148 = .ok (.ireturn, 1) := by decide +kernel
theorem dX12_isFrom_0 : decode cX12_isFrom 0 = .ok (.lload_n 0, 1) := by decide +kernel
theorem dX12_isFrom_1 : decode cX12_isFrom 1 = .ok (.lload_n 2, 1) := by decide +kernel
theorem dX12_isFrom_2 : decode cX12_isFrom 2 = .ok (.lcmp, 1) := by decide +kernel
theorem dX12_isFrom_3 : decode cX12_isFrom 3 = .ok (.ifCond .lt 14, 3) := by decide +kernel
theorem dX12_isFrom_6 : decode cX12_isFrom 6 = .ok (.lload_n 0, 1) := by decide +kernel
theorem dX12_isFrom_7 : decode cX12_isFrom 7 = .ok (.lload 4, 2) := by decide +kernel
theorem dX12_isFrom_9 : decode cX12_isFrom 9 = .ok (.lcmp, 1) := by decide +kernel
theorem dX12_isFrom_10 : decode cX12_isFrom 10 = .ok (.ifCond .gt 7, 3) := by decide +kernel
theorem dX12_isFrom_13 : decode cX12_isFrom 13 = .ok (.iconst 1, 1) := by decide +kernel
theorem dX12_isFrom_14 : decode cX12_isFrom 14 = .ok (.goto 4, 3) := by decide +kernel
theorem dX12_isFrom_17 : decode cX12_isFrom 17 = .ok (.iconst 0, 1) := by decide +kernel
theorem dX12_isFrom_18 : decode cX12_isFrom 18 = .ok (.ireturn, 1) := by decide +kernel
theorem dX12_isGap_0 : decode cX12_isGap 0 = .ok (.aload_n 0, 1) := by decide +kernel
theorem dX12_isGap_1 : decode cX12_isGap 1 = .ok (.iload 4, 2) := by decide +kernel
theorem dX12_isGap_3 : decode cX12_isGap 3 = .ok (.iload 5, 2) := by decide +kernel
theorem dX12_isGap_5 : decode cX12_isGap 5 = .ok (.aload_n 0, 1) := by decide +kernel
theorem dX12_isGap_6 : decode cX12_isGap 6 = .ok (.iload_n 1, 1) := by decide +kernel
theorem dX12_isGap_7 : decode cX12_isGap 7 = .ok (.iload_n 2, 1) := by decide +kernel
theorem dX12_isGap_8 : decode cX12_isGap 8 = .ok (.iload_n 3, 1) := by decide +kernel
theorem dX12_isGap_9 : decode cX12_isGap 9 = .ok (.invokevirtual 158, 3) := by decide +kernel
theorem dX12_isGap_12 : decode cX12_isGap 12 = .ok (.invokevirtual 105, 3) := by decide +kernel
theorem dX12_isGap_15 : decode cX12_isGap 15 = .ok (.ifCond .ne 5, 3) := by decide +kernel
theorem dX12_isGap_18 : decode cX12_isGap 18 = .ok (.iconst 0, 1) := by decide +kernel
theorem dX12_isGap_19 : decode cX12_isGap 19 = .ok (.ireturn, 1) := by decide +kernel
theorem dX12_isGap_20 : decode cX12_isGap 20 = .ok (.iconst 0, 1) := by decide +kernel
theorem dX12_isGap_21 : decode cX12_isGap 21 = .ok (.istore 6, 2) := by decide +kernel
theorem dX12_isGap_23 : decode cX12_isGap 23 = .ok (.iload 6, 2) := by decide +kernel
theorem dX12_isGap_25 : decode cX12_isGap 25 = .ok (.aload_n 0, 1) := by decide +kernel
theorem dX12_isGap_26 : decode cX12_isGap 26 = .ok (.getfield 23, 3) := by decide +kernel
theorem dX12_isGap_29 : decode cX12_isGap 29 = .ok (.iload_n 1, 1) := by decide +kernel
theorem dX12_isGap_30 : decode cX12_isGap 30 = .ok (.iaload, 1) := by decide +kernel
theorem dX12_isGap_31 : decode cX12_isGap 31 = .ok (.if_icmp .ge 37, 3) := by decide +kernel
theorem dX12_isGap_34 : decode cX12_isGap 34 = .ok (.aload_n 0, 1) := by decide +kernel
theorem dX12_isGap_35 : decode cX12_isGap 35 = .ok (.iload_n 1, 1) := by decide +kernel
theorem dX12_isGap_36 : decode cX12_isGap 36 = .ok (.iload_n 2, 1) := by decide +kernel
theorem dX12_isGap_37 : decode cX12_isGap 37 = .ok (.iload 6, 2) := by decide +kernel
theorem dX12_isGap_39 : decode cX12_isGap 39 = .ok (.invokevirtual 158, 3) := by decide +kernel
theorem dX12_isGap_42 : decode cX12_isGap 42 = .ok (.iload 4, 2) := by decide +kernel
theorem dX12_isGap_44 : decode cX12_isGap 44 = .ok (.if_icmp .ne 18, 3) := by decide +kernel
theorem dX12_isGap_47 : decode cX12_isGap 47 = .ok (.aload_n 0, 1) := by decide +kernel
theorem dX12_isGap_48 : decode cX12_isGap 48 = .ok (.iload_n 1, 1) := by decide +kernel
theorem dX12_isGap_49 : decode cX12_isGap 49 = .ok (.iload 6, 2) := by decide +kernel
theorem dX12_isGap_51 : decode cX12_isGap 51 = .ok (.iload_n 3, 1) := by decide +kernel
theorem dX12_isGap_52 : decode cX12_isGap 52 = .ok (.invokevirtual 158, 3) := by decide +kernel
theorem dX12_isGap_55 : decode cX12_isGap 55 = .ok (.iload 5, 2) := by decide +kernel
theorem dX12_isGap_57 : decode cX12_isGap 57 = .ok (.if_icmp .ne 5, 3) := by decide +kernel
theorem dX12_isGap_60 : decode cX12_isGap 60 = .ok (.iconst 0, 1) := by decide +kernel
theorem dX12_isGap_61 : decode cX12_isGap 61 = .ok (.ireturn, 1) := by decide +kernel
theorem dX12_isGap_62 : decode cX12_isGap 62 = .ok (.iinc 6 1, 3) := by decide +kernel
theorem dX12_isGap_65 : decode cX12_isGap 65 = .ok (.goto (-42), 3) := by decide +kernel
theorem dX12_isGap_68 : decode cX12_isGap 68 = .ok (.iconst 1, 1) := by decide +kernel
theorem dX12_isGap_69 : decode cX12_isGap 69 = .ok (.ireturn, 1) := by decide +kernel
