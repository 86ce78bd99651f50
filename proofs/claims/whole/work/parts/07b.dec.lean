theorem dX10_next_0 : decode cX10_next 0 = .ok (.aload_n 0, 1) := by decide +kernel
theorem dX10_next_1 : decode cX10_next 1 = .ok (.iconst 0, 1) := by decide +kernel
theorem dX10_next_2 : decode cX10_next 2 = .ok (.invokevirtual 29, 3) := by decide +kernel
theorem dX10_next_5 : decode cX10_next 5 = .ok (.istore_n 1, 1) := by decide +kernel
theorem dX10_next_6 : decode cX10_next 6 = .ok (.iload_n 1, 1) := by decide +kernel
theorem dX10_next_7 : decode cX10_next 7 = .ok (.aload_n 0, 1) := by decide +kernel
theorem dX10_next_8 : decode cX10_next 8 = .ok (.getfield 9, 3) := by decide +kernel
theorem dX10_next_11 : decode cX10_next 11 = .ok (.if_icmp .ge 15, 3) := by decide +kernel
theorem dX10_next_14 : decode cX10_next 14 = .ok (.aload_n 0, 1) := by decide +kernel
theorem dX10_next_15 : decode cX10_next 15 = .ok (.iload_n 1, 1) := by decide +kernel
theorem dX10_next_16 : decode cX10_next 16 = .ok (.invokevirtual 25, 3) := by decide +kernel
theorem dX10_next_19 : decode cX10_next 19 = .ok (.ifCond .eq 7, 3) := by decide +kernel
theorem dX10_next_22 : decode cX10_next 22 = .ok (.iconst 1, 1) := by decide +kernel
theorem dX10_next_23 : decode cX10_next 23 = .ok (.goto 4, 3) := by decide +kernel
theorem dX10_next_26 : decode cX10_next 26 = .ok (.iconst 0, 1) := by decide +kernel
theorem dX10_next_27 : decode cX10_next 27 = .ok (.ireturn, 1) := by decide +kernel
theorem dX10_settle_0 : decode cX10_settle 0 = .ok (.iload_n 1, 1) := by decide +kernel
theorem dX10_settle_1 : decode cX10_settle 1 = .ok (.istore_n 2, 1) := by decide +kernel
theorem dX10_settle_2 : decode cX10_settle 2 = .ok (.iconst 0, 1) := by decide +kernel
theorem dX10_settle_3 : decode cX10_settle 3 = .ok (.istore_n 3, 1) := by decide +kernel
theorem dX10_settle_4 : decode cX10_settle 4 = .ok (.iload_n 3, 1) := by decide +kernel
theorem dX10_settle_5 : decode cX10_settle 5 = .ok (.ldc 33, 2) := by decide +kernel
theorem dX10_settle_7 : decode cX10_settle 7 = .ok (.if_icmp .ge 38, 3) := by decide +kernel
theorem dX10_settle_10 : decode cX10_settle 10 = .ok (.iload_n 2, 1) := by decide +kernel
theorem dX10_settle_11 : decode cX10_settle 11 = .ok (.aload_n 0, 1) := by decide +kernel
theorem dX10_settle_12 : decode cX10_settle 12 = .ok (.getfield 9, 3) := by decide +kernel
theorem dX10_settle_15 : decode cX10_settle 15 = .ok (.if_icmp .ge 30, 3) := by decide +kernel
theorem dX10_settle_18 : decode cX10_settle 18 = .ok (.aload_n 0, 1) := by decide +kernel
theorem dX10_settle_19 : decode cX10_settle 19 = .ok (.iload_n 2, 1) := by decide +kernel
theorem dX10_settle_20 : decode cX10_settle 20 = .ok (.invokevirtual 34, 3) := by decide +kernel
theorem dX10_settle_23 : decode cX10_settle 23 = .ok (.istore 4, 2) := by decide +kernel
theorem dX10_settle_25 : decode cX10_settle 25 = .ok (.iload 4, 2) := by decide +kernel
theorem dX10_settle_27 : decode cX10_settle 27 = .ok (.ifCond .ge 5, 3) := by decide +kernel
theorem dX10_settle_30 : decode cX10_settle 30 = .ok (.iconst 1, 1) := by decide +kernel
theorem dX10_settle_31 : decode cX10_settle 31 = .ok (.ireturn, 1) := by decide +kernel
theorem dX10_settle_32 : decode cX10_settle 32 = .ok (.aload_n 0, 1) := by decide +kernel
theorem dX10_settle_33 : decode cX10_settle 33 = .ok (.iload 4, 2) := by decide +kernel
theorem dX10_settle_35 : decode cX10_settle 35 = .ok (.invokevirtual 29, 3) := by decide +kernel
theorem dX10_settle_38 : decode cX10_settle 38 = .ok (.istore_n 2, 1) := by decide +kernel
theorem dX10_settle_39 : decode cX10_settle 39 = .ok (.iinc 3 1, 3) := by decide +kernel
theorem dX10_settle_42 : decode cX10_settle 42 = .ok (.goto (-38), 3) := by decide +kernel
theorem dX10_settle_45 : decode cX10_settle 45 = .ok (.iconst 0, 1) := by decide +kernel
theorem dX10_settle_46 : decode cX10_settle 46 = .ok (.ireturn, 1) := by decide +kernel
theorem dX10_span_0 : decode cX10_span 0 = .ok (.aload_n 0, 1) := by decide +kernel
theorem dX10_span_1 : decode cX10_span 1 = .ok (.iload_n 1, 1) := by decide +kernel
theorem dX10_span_2 : decode cX10_span 2 = .ok (.putfield 9, 3) := by decide +kernel
theorem dX10_span_5 : decode cX10_span 5 = .ok (.iconst 0, 1) := by decide +kernel
theorem dX10_span_6 : decode cX10_span 6 = .ok (.istore 4, 2) := by decide +kernel
theorem dX10_span_8 : decode cX10_span 8 = .ok (.iload 4, 2) := by decide +kernel
theorem dX10_span_10 : decode cX10_span 10 = .ok (.aload_n 0, 1) := by decide +kernel
theorem dX10_span_11 : decode cX10_span 11 = .ok (.getfield 9, 3) := by decide +kernel
theorem dX10_span_14 : decode cX10_span 14 = .ok (.if_icmp .ge 25, 3) := by decide +kernel
theorem dX10_span_17 : decode cX10_span 17 = .ok (.aload_n 0, 1) := by decide +kernel
theorem dX10_span_18 : decode cX10_span 18 = .ok (.getfield 19, 3) := by decide +kernel
theorem dX10_span_21 : decode cX10_span 21 = .ok (.iload 4, 2) := by decide +kernel
theorem dX10_span_23 : decode cX10_span 23 = .ok (.iload_n 2, 1) := by decide +kernel
theorem dX10_span_24 : decode cX10_span 24 = .ok (.iastore, 1) := by decide +kernel
theorem dX10_span_25 : decode cX10_span 25 = .ok (.aload_n 0, 1) := by decide +kernel
theorem dX10_span_26 : decode cX10_span 26 = .ok (.getfield 22, 3) := by decide +kernel
theorem dX10_span_29 : decode cX10_span 29 = .ok (.iload 4, 2) := by decide +kernel
theorem dX10_span_31 : decode cX10_span 31 = .ok (.iload_n 3, 1) := by decide +kernel
theorem dX10_span_32 : decode cX10_span 32 = .ok (.iastore, 1) := by decide +kernel
theorem dX10_span_33 : decode cX10_span 33 = .ok (.iinc 4 1, 3) := by decide +kernel
theorem dX10_span_36 : decode cX10_span 36 = .ok (.goto (-28), 3) := by decide +kernel
theorem dX10_span_39 : decode cX10_span 39 = .ok (.return_, 1) := by decide +kernel
theorem dX10_turn_0 : decode cX10_turn 0 = .ok (.iload_n 1, 1) := by decide +kernel
theorem dX10_turn_1 : decode cX10_turn 1 = .ok (.istore_n 2, 1) := by decide +kernel
theorem dX10_turn_2 : decode cX10_turn 2 = .ok (.iload_n 2, 1) := by decide +kernel
theorem dX10_turn_3 : decode cX10_turn 3 = .ok (.aload_n 0, 1) := by decide +kernel
theorem dX10_turn_4 : decode cX10_turn 4 = .ok (.getfield 9, 3) := by decide +kernel
theorem dX10_turn_7 : decode cX10_turn 7 = .ok (.if_icmp .ge 24, 3) := by decide +kernel
theorem dX10_turn_10 : decode cX10_turn 10 = .ok (.aload_n 0, 1) := by decide +kernel
theorem dX10_turn_11 : decode cX10_turn 11 = .ok (.getfield 15, 3) := by decide +kernel
theorem dX10_turn_14 : decode cX10_turn 14 = .ok (.iload_n 2, 1) := by decide +kernel
theorem dX10_turn_15 : decode cX10_turn 15 = .ok (.iaload, 1) := by decide +kernel
theorem dX10_turn_16 : decode cX10_turn 16 = .ok (.aload_n 0, 1) := by decide +kernel
theorem dX10_turn_17 : decode cX10_turn 17 = .ok (.getfield 22, 3) := by decide +kernel
theorem dX10_turn_20 : decode cX10_turn 20 = .ok (.iload_n 2, 1) := by decide +kernel
theorem dX10_turn_21 : decode cX10_turn 21 = .ok (.iaload, 1) := by decide +kernel
theorem dX10_turn_22 : decode cX10_turn 22 = .ok (.if_icmp .lt 9, 3) := by decide +kernel
theorem dX10_turn_25 : decode cX10_turn 25 = .ok (.iinc 2 1, 3) := by decide +kernel
theorem dX10_turn_28 : decode cX10_turn 28 = .ok (.goto (-26), 3) := by decide +kernel
theorem dX10_turn_31 : decode cX10_turn 31 = .ok (.iload_n 2, 1) := by decide +kernel
theorem dX10_turn_32 : decode cX10_turn 32 = .ok (.aload_n 0, 1) := by decide +kernel
theorem dX10_turn_33 : decode cX10_turn 33 = .ok (.getfield 9, 3) := by decide +kernel
theorem dX10_turn_36 : decode cX10_turn 36 = .ok (.if_icmp .ge 38, 3) := by decide +kernel
theorem dX10_turn_39 : decode cX10_turn 39 = .ok (.aload_n 0, 1) := by decide +kernel
theorem dX10_turn_40 : decode cX10_turn 40 = .ok (.getfield 15, 3) := by decide +kernel
theorem dX10_turn_43 : decode cX10_turn 43 = .ok (.iload_n 2, 1) := by decide +kernel
theorem dX10_turn_44 : decode cX10_turn 44 = .ok (.dup2, 1) := by decide +kernel
theorem dX10_turn_45 : decode cX10_turn 45 = .ok (.iaload, 1) := by decide +kernel
theorem dX10_turn_46 : decode cX10_turn 46 = .ok (.iconst 1, 1) := by decide +kernel
theorem dX10_turn_47 : decode cX10_turn 47 = .ok (.iadd, 1) := by decide +kernel
theorem dX10_turn_48 : decode cX10_turn 48 = .ok (.iastore, 1) := by decide +kernel
theorem dX10_turn_49 : decode cX10_turn 49 = .ok (.iconst 0, 1) := by decide +kernel
theorem dX10_turn_50 : decode cX10_turn 50 = .ok (.istore_n 3, 1) := by decide +kernel
theorem dX10_turn_51 : decode cX10_turn 51 = .ok (.iload_n 3, 1) := by decide +kernel
theorem dX10_turn_52 : decode cX10_turn 52 = .ok (.iload_n 2, 1) := by decide +kernel
theorem dX10_turn_53 : decode cX10_turn 53 = .ok (.if_icmp .ge 21, 3) := by decide +kernel
theorem dX10_turn_56 : decode cX10_turn 56 = .ok (.aload_n 0, 1) := by decide +kernel
theorem dX10_turn_57 : decode cX10_turn 57 = .ok (.getfield 15, 3) := by decide +kernel
theorem dX10_turn_60 : decode cX10_turn 60 = .ok (.iload_n 3, 1) := by decide +kernel
theorem dX10_turn_61 : decode cX10_turn 61 = .ok (.aload_n 0, 1) := by decide +kernel
theorem dX10_turn_62 : decode cX10_turn 62 = .ok (.getfield 19, 3) := by decide +kernel
theorem dX10_turn_65 : decode cX10_turn 65 = .ok (.iload_n 3, 1) := by decide +kernel
theorem dX10_turn_66 : decode cX10_turn 66 = .ok (.iaload, 1) := by decide +kernel
theorem dX10_turn_67 : decode cX10_turn 67 = .ok (.iastore, 1) := by decide +kernel
theorem dX10_turn_68 : decode cX10_turn 68 = .ok (.iinc 3 1, 3) := by decide +kernel
theorem dX10_turn_71 : decode cX10_turn 71 = .ok (.goto (-20), 3) := by decide +kernel
theorem dX10_turn_74 : decode cX10_turn 74 = .ok (.iload_n 2, 1) := by decide +kernel
theorem dX10_turn_75 : decode cX10_turn 75 = .ok (.ireturn, 1) := by decide +kernel
theorem dX11_answer_0 : decode cX11_answer 0 = .ok (.aload_n 0, 1) := by decide +kernel
theorem dX11_answer_1 : decode cX11_answer 1 = .ok (.getfield 59, 3) := by decide +kernel
theorem dX11_answer_4 : decode cX11_answer 4 = .ok (.getfield 255, 3) := by decide +kernel
theorem dX11_answer_7 : decode cX11_answer 7 = .ok (.ifCond .eq 13, 3) := by decide +kernel
theorem dX11_answer_10 : decode cX11_answer 10 = .ok (.aload_n 0, 1) := by decide +kernel
theorem dX11_answer_11 : decode cX11_answer 11 = .ok (.getfield 59, 3) := by decide +kernel
theorem dX11_answer_14 : decode cX11_answer 14 = .ok (.getfield 252, 3) := by decide +kernel
theorem dX11_answer_17 : decode cX11_answer 17 = .ok (.ifCond .ne 6, 3) := by decide +kernel
theorem dX11_answer_20 : decode cX11_answer 20 = .ok (.bipush (-3), 2) := by decide +kernel
theorem dX11_answer_22 : decode cX11_answer 22 = .ok (.ireturn, 1) := by decide +kernel
theorem dX11_answer_23 : decode cX11_answer 23 = .ok (.aload_n 0, 1) := by decide +kernel
theorem dX11_answer_24 : decode cX11_answer 24 = .ok (.getfield 59, 3) := by decide +kernel
theorem dX11_answer_27 : decode cX11_answer 27 = .ok (.getfield 261, 3) := by decide +kernel
theorem dX11_answer_30 : decode cX11_answer 30 = .ok (.getfield 181, 3) := by decide +kernel
theorem dX11_answer_33 : decode cX11_answer 33 = .ok (.bipush 6, 2) := by decide +kernel
theorem dX11_answer_35 : decode cX11_answer 35 = .ok (.if_icmp .lt 6, 3) := by decide +kernel
theorem dX11_answer_38 : decode cX11_answer 38 = .ok (.bipush (-4), 2) := by decide +kernel
theorem dX11_answer_40 : decode cX11_answer 40 = .ok (.ireturn, 1) := by decide +kernel
theorem dX11_answer_41 : decode cX11_answer 41 = .ok (.aload_n 0, 1) := by decide +kernel
theorem dX11_answer_42 : decode cX11_answer 42 = .ok (.getfield 39, 3) := by decide +kernel
theorem dX11_answer_45 : decode cX11_answer 45 = .ok (.aload_n 0, 1) := by decide +kernel
theorem dX11_answer_46 : decode cX11_answer 46 = .ok (.getfield 59, 3) := by decide +kernel
theorem dX11_answer_49 : decode cX11_answer 49 = .ok (.getfield 261, 3) := by decide +kernel
theorem dX11_answer_52 : decode cX11_answer 52 = .ok (.aload_n 0, 1) := by decide +kernel
theorem dX11_answer_53 : decode cX11_answer 53 = .ok (.getfield 59, 3) := by decide +kernel
theorem dX11_answer_56 : decode cX11_answer 56 = .ok (.getfield 258, 3) := by decide +kernel
theorem dX11_answer_59 : decode cX11_answer 59 = .ok (.iconst 0, 1) := by decide +kernel
theorem dX11_answer_60 : decode cX11_answer 60 = .ok (.iaload, 1) := by decide +kernel
theorem dX11_answer_61 : decode cX11_answer 61 = .ok (.iload_n 1, 1) := by decide +kernel
theorem dX11_answer_62 : decode cX11_answer 62 = .ok (.invokevirtual 264, 3) := by decide +kernel
theorem dX11_answer_65 : decode cX11_answer 65 = .ok (.ifCond .ne 6, 3) := by decide +kernel
theorem dX11_answer_68 : decode cX11_answer 68 = .ok (.bipush (-5), 2) := by decide +kernel
theorem dX11_answer_70 : decode cX11_answer 70 = .ok (.ireturn, 1) := by decide +kernel
theorem dX11_answer_71 : decode cX11_answer 71 = .ok (.aload_n 0, 1) := by decide +kernel
theorem dX11_answer_72 : decode cX11_answer 72 = .ok (.getfield 59, 3) := by decide +kernel
theorem dX11_answer_75 : decode cX11_answer 75 = .ok (.aload_n 0, 1) := by decide +kernel
theorem dX11_answer_76 : decode cX11_answer 76 = .ok (.getfield 39, 3) := by decide +kernel
theorem dX11_answer_79 : decode cX11_answer 79 = .ok (.getfield 188, 3) := by decide +kernel
theorem dX11_answer_82 : decode cX11_answer 82 = .ok (.invokevirtual 268, 3) := by decide +kernel
theorem dX11_answer_85 : decode cX11_answer 85 = .ok (.aload_n 0, 1) := by decide +kernel
theorem dX11_answer_86 : decode cX11_answer 86 = .ok (.getfield 59, 3) := by decide +kernel
theorem dX11_answer_89 : decode cX11_answer 89 = .ok (.getfield 252, 3) := by decide +kernel
theorem dX11_answer_92 : decode cX11_answer 92 = .ok (.ireturn, 1) := by decide +kernel
theorem dX11_ask_0 : decode cX11_ask 0 = .ok (.aload_n 0, 1) := by decide +kernel
theorem dX11_ask_1 : decode cX11_ask 1 = .ok (.getfield 59, 3) := by decide +kernel
theorem dX11_ask_4 : decode cX11_ask 4 = .ok (.getfield 255, 3) := by decide +kernel
theorem dX11_ask_7 : decode cX11_ask 7 = .ok (.ifCond .ne 6, 3) := by decide +kernel
theorem dX11_ask_10 : decode cX11_ask 10 = .ok (.bipush (-3), 2) := by decide +kernel
theorem dX11_ask_12 : decode cX11_ask 12 = .ok (.ireturn, 1) := by decide +kernel
theorem dX11_ask_13 : decode cX11_ask 13 = .ok (.iload_n 1, 1) := by decide +kernel
theorem dX11_ask_14 : decode cX11_ask 14 = .ok (.ifCond .lt 14, 3) := by decide +kernel
theorem dX11_ask_17 : decode cX11_ask 17 = .ok (.iload_n 1, 1) := by decide +kernel
theorem dX11_ask_18 : decode cX11_ask 18 = .ok (.aload_n 0, 1) := by decide +kernel
theorem dX11_ask_19 : decode cX11_ask 19 = .ok (.getfield 59, 3) := by decide +kernel
theorem dX11_ask_22 : decode cX11_ask 22 = .ok (.getfield 252, 3) := by decide +kernel
theorem dX11_ask_25 : decode cX11_ask 25 = .ok (.if_icmp .lt 7, 3) := by decide +kernel
theorem dX11_ask_28 : decode cX11_ask 28 = .ok (.iconst (-1), 1) := by decide +kernel
theorem dX11_ask_29 : decode cX11_ask 29 = .ok (.goto 12, 3) := by decide +kernel
theorem dX11_ask_32 : decode cX11_ask 32 = .ok (.aload_n 0, 1) := by decide +kernel
theorem dX11_ask_33 : decode cX11_ask 33 = .ok (.getfield 59, 3) := by decide +kernel
theorem dX11_ask_36 : decode cX11_ask 36 = .ok (.getfield 258, 3) := by decide +kernel
theorem dX11_ask_39 : decode cX11_ask 39 = .ok (.iload_n 1, 1) := by decide +kernel
theorem dX11_ask_40 : decode cX11_ask 40 = .ok (.iaload, 1) := by decide +kernel
theorem dX11_ask_41 : decode cX11_ask 41 = .ok (.ireturn, 1) := by decide +kernel
theorem dX11_atoms_0 : decode cX11_atoms 0 = .ok (.iload_n 1, 1) := by decide +kernel
theorem dX11_atoms_1 : decode cX11_atoms 1 = .ok (.iconst 1, 1) := by decide +kernel
theorem dX11_atoms_2 : decode cX11_atoms 2 = .ok (.if_icmp .lt 8, 3) := by decide +kernel
theorem dX11_atoms_5 : decode cX11_atoms 5 = .ok (.iload_n 1, 1) := by decide +kernel
theorem dX11_atoms_6 : decode cX11_atoms 6 = .ok (.iconst 4, 1) := by decide +kernel
theorem dX11_atoms_7 : decode cX11_atoms 7 = .ok (.if_icmp .le 6, 3) := by decide +kernel
theorem dX11_atoms_10 : decode cX11_atoms 10 = .ok (.bipush (-2), 2) := by decide +kernel
theorem dX11_atoms_12 : decode cX11_atoms 12 = .ok (.ireturn, 1) := by decide +kernel
theorem dX11_atoms_13 : decode cX11_atoms 13 = .ok (.aload_n 0, 1) := by decide +kernel
theorem dX11_atoms_14 : decode cX11_atoms 14 = .ok (.getfield 12, 3) := by decide +kernel
theorem dX11_atoms_17 : decode cX11_atoms 17 = .ok (.getfield 52, 3) := by decide +kernel
theorem dX11_atoms_20 : decode cX11_atoms 20 = .ok (.getfield 88, 3) := by decide +kernel
theorem dX11_atoms_23 : decode cX11_atoms 23 = .ok (.istore_n 2, 1) := by decide +kernel
theorem dX11_atoms_24 : decode cX11_atoms 24 = .ok (.aload_n 0, 1) := by decide +kernel
theorem dX11_atoms_25 : decode cX11_atoms 25 = .ok (.getfield 12, 3) := by decide +kernel
theorem dX11_atoms_28 : decode cX11_atoms 28 = .ok (.getfield 52, 3) := by decide +kernel
theorem dX11_atoms_31 : decode cX11_atoms 31 = .ok (.iload_n 1, 1) := by decide +kernel
theorem dX11_atoms_32 : decode cX11_atoms 32 = .ok (.invokevirtual 94, 3) := by decide +kernel
theorem dX11_atoms_35 : decode cX11_atoms 35 = .ok (.aload_n 0, 1) := by decide +kernel
theorem dX11_atoms_36 : decode cX11_atoms 36 = .ok (.invokevirtual 98, 3) := by decide +kernel
theorem dX11_atoms_39 : decode cX11_atoms 39 = .ok (.iload_n 2, 1) := by decide +kernel
theorem dX11_atoms_40 : decode cX11_atoms 40 = .ok (.ireturn, 1) := by decide +kernel
theorem dX11_begin_0 : decode cX11_begin 0 = .ok (.iload_n 1, 1) := by decide +kernel
theorem dX11_begin_1 : decode cX11_begin 1 = .ok (.invokestatic 174, 3) := by decide +kernel
theorem dX11_begin_4 : decode cX11_begin 4 = .ok (.ifCond .ne 5, 3) := by decide +kernel
theorem dX11_begin_7 : decode cX11_begin 7 = .ok (.iconst (-1), 1) := by decide +kernel
theorem dX11_begin_8 : decode cX11_begin 8 = .ok (.ireturn, 1) := by decide +kernel
theorem dX11_begin_9 : decode cX11_begin 9 = .ok (.aload_n 0, 1) := by decide +kernel
theorem dX11_begin_10 : decode cX11_begin 10 = .ok (.aload_n 0, 1) := by decide +kernel
theorem dX11_begin_11 : decode cX11_begin 11 = .ok (.getfield 12, 3) := by decide +kernel
theorem dX11_begin_14 : decode cX11_begin 14 = .ok (.getfield 177, 3) := by decide +kernel
theorem dX11_begin_17 : decode cX11_begin 17 = .ok (.iload_n 1, 1) := by decide +kernel
theorem dX11_begin_18 : decode cX11_begin 18 = .ok (.aaload, 1) := by decide +kernel
theorem dX11_begin_19 : decode cX11_begin 19 = .ok (.invokevirtual 245, 3) := by decide +kernel
theorem dX11_begin_22 : decode cX11_begin 22 = .ok (.ifCond .ne 6, 3) := by decide +kernel
theorem dX11_begin_25 : decode cX11_begin 25 = .ok (.bipush (-3), 2) := by decide +kernel
theorem dX11_begin_27 : decode cX11_begin 27 = .ok (.ireturn, 1) := by decide +kernel
theorem dX11_begin_28 : decode cX11_begin 28 = .ok (.aload_n 0, 1) := by decide +kernel
theorem dX11_begin_29 : decode cX11_begin 29 = .ok (.getfield 59, 3) := by decide +kernel
theorem dX11_begin_32 : decode cX11_begin 32 = .ok (.aload_n 0, 1) := by decide +kernel
theorem dX11_begin_33 : decode cX11_begin 33 = .ok (.getfield 12, 3) := by decide +kernel
theorem dX11_begin_36 : decode cX11_begin 36 = .ok (.getfield 177, 3) := by decide +kernel
theorem dX11_begin_39 : decode cX11_begin 39 = .ok (.iload_n 1, 1) := by decide +kernel
theorem dX11_begin_40 : decode cX11_begin 40 = .ok (.aaload, 1) := by decide +kernel
theorem dX11_begin_41 : decode cX11_begin 41 = .ok (.invokevirtual 249, 3) := by decide +kernel
theorem dX11_begin_44 : decode cX11_begin 44 = .ok (.aload_n 0, 1) := by decide +kernel
theorem dX11_begin_45 : decode cX11_begin 45 = .ok (.getfield 59, 3) := by decide +kernel
theorem dX11_begin_48 : decode cX11_begin 48 = .ok (.getfield 252, 3) := by decide +kernel
theorem dX11_begin_51 : decode cX11_begin 51 = .ok (.ireturn, 1) := by decide +kernel
theorem dX11_board_0 : decode cX11_board 0 = .ok (.aload_n 0, 1) := by decide +kernel
theorem dX11_board_1 : decode cX11_board 1 = .ok (.getfield 59, 3) := by decide +kernel
theorem dX11_board_4 : decode cX11_board 4 = .ok (.getfield 255, 3) := by decide +kernel
theorem dX11_board_7 : decode cX11_board 7 = .ok (.ifCond .ne 6, 3) := by decide +kernel
theorem dX11_board_10 : decode cX11_board 10 = .ok (.bipush (-3), 2) := by decide +kernel
theorem dX11_board_12 : decode cX11_board 12 = .ok (.ireturn, 1) := by decide +kernel
theorem dX11_board_13 : decode cX11_board 13 = .ok (.iload_n 1, 1) := by decide +kernel
theorem dX11_board_14 : decode cX11_board 14 = .ok (.tableswitch 53 0 2 #[26, 37, 45], 26) := by decide +kernel
theorem dX11_board_40 : decode cX11_board 40 = .ok (.aload_n 0, 1) := by decide +kernel
theorem dX11_board_41 : decode cX11_board 41 = .ok (.getfield 59, 3) := by decide +kernel
theorem dX11_board_44 : decode cX11_board 44 = .ok (.getfield 261, 3) := by decide +kernel
theorem dX11_board_47 : decode cX11_board 47 = .ok (.getfield 181, 3) := by decide +kernel
theorem dX11_board_50 : decode cX11_board 50 = .ok (.ireturn, 1) := by decide +kernel
theorem dX11_board_51 : decode cX11_board 51 = .ok (.aload_n 0, 1) := by decide +kernel
theorem dX11_board_52 : decode cX11_board 52 = .ok (.getfield 59, 3) := by decide +kernel
theorem dX11_board_55 : decode cX11_board 55 = .ok (.getfield 252, 3) := by decide +kernel
theorem dX11_board_58 : decode cX11_board 58 = .ok (.ireturn, 1) := by decide +kernel
theorem dX11_board_59 : decode cX11_board 59 = .ok (.aload_n 0, 1) := by decide +kernel
theorem dX11_board_60 : decode cX11_board 60 = .ok (.getfield 59, 3) := by decide +kernel
theorem dX11_board_63 : decode cX11_board 63 = .ok (.getfield 275, 3) := by decide +kernel
theorem dX11_board_66 : decode cX11_board 66 = .ok (.ireturn, 1) := by decide +kernel
theorem dX11_board_67 : decode cX11_board 67 = .ok (.iconst (-1), 1) := by decide +kernel
theorem dX11_board_68 : decode cX11_board 68 = .ok (.ireturn, 1) := by decide +kernel
theorem dX11_broken_0 : decode cX11_broken 0 = .ok (.iload_n 1, 1) := by decide +kernel
theorem dX11_broken_1 : decode cX11_broken 1 = .ok (.ifCond .lt 8, 3) := by decide +kernel
theorem dX11_broken_4 : decode cX11_broken 4 = .ok (.iload_n 1, 1) := by decide +kernel
theorem dX11_broken_5 : decode cX11_broken 5 = .ok (.iconst 3, 1) := by decide +kernel
theorem dX11_broken_6 : decode cX11_broken 6 = .ok (.if_icmp .le 5, 3) := by decide +kernel
theorem dX11_broken_9 : decode cX11_broken 9 = .ok (.iconst (-1), 1) := by decide +kernel
theorem dX11_broken_10 : decode cX11_broken 10 = .ok (.ireturn, 1) := by decide +kernel
theorem dX11_broken_11 : decode cX11_broken 11 = .ok (.iload_n 1, 1) := by decide +kernel
theorem dX11_broken_12 : decode cX11_broken 12 = .ok (.iconst 2, 1) := by decide +kernel
theorem dX11_broken_13 : decode cX11_broken 13 = .ok (.if_icmp .ge 25, 3) := by decide +kernel
theorem dX11_broken_16 : decode cX11_broken 16 = .ok (.aload_n 0, 1) := by decide +kernel
theorem dX11_broken_17 : decode cX11_broken 17 = .ok (.getfield 12, 3) := by decide +kernel
theorem dX11_broken_20 : decode cX11_broken 20 = .ok (.getfield 52, 3) := by decide +kernel
theorem dX11_broken_23 : decode cX11_broken 23 = .ok (.iload_n 1, 1) := by decide +kernel
theorem dX11_broken_24 : decode cX11_broken 24 = .ok (.ifCond .ne 7, 3) := by decide +kernel
theorem dX11_broken_27 : decode cX11_broken 27 = .ok (.iconst 1, 1) := by decide +kernel
theorem dX11_broken_28 : decode cX11_broken 28 = .ok (.goto 4, 3) := by decide +kernel
theorem dX11_broken_31 : decode cX11_broken 31 = .ok (.iconst 0, 1) := by decide +kernel
theorem dX11_broken_32 : decode cX11_broken 32 = .ok (.invokevirtual 156, 3) := by decide +kernel
theorem dX11_broken_35 : decode cX11_broken 35 = .ok (.goto 23, 3) := by decide +kernel
theorem dX11_broken_38 : decode cX11_broken 38 = .ok (.aload_n 0, 1) := by decide +kernel
theorem dX11_broken_39 : decode cX11_broken 39 = .ok (.getfield 12, 3) := by decide +kernel
theorem dX11_broken_42 : decode cX11_broken 42 = .ok (.getfield 52, 3) := by decide +kernel
theorem dX11_broken_45 : decode cX11_broken 45 = .ok (.iload_n 1, 1) := by decide +kernel
theorem dX11_broken_46 : decode cX11_broken 46 = .ok (.iconst 2, 1) := by decide +kernel
theorem dX11_broken_47 : decode cX11_broken 47 = .ok (.if_icmp .ne 7, 3) := by decide +kernel
theorem dX11_broken_50 : decode cX11_broken 50 = .ok (.iconst 1, 1) := by decide +kernel
theorem dX11_broken_51 : decode cX11_broken 51 = .ok (.goto 4, 3) := by decide +kernel
theorem dX11_broken_54 : decode cX11_broken 54 = .ok (.iconst 0, 1) := by decide +kernel
theorem dX11_broken_55 : decode cX11_broken 55 = .ok (.invokevirtual 160, 3) := by decide +kernel
theorem dX11_broken_58 : decode cX11_broken 58 = .ok (.ireturn, 1) := by decide +kernel
theorem dX11_compose_0 : decode cX11_compose 0 = .ok (.aload_n 0, 1) := by decide +kernel
theorem dX11_compose_1 : decode cX11_compose 1 = .ok (.iload_n 1, 1) := by decide +kernel
theorem dX11_compose_2 : decode cX11_compose 2 = .ok (.invokevirtual 113, 3) := by decide +kernel
theorem dX11_compose_5 : decode cX11_compose 5 = .ok (.ifCond .eq 11, 3) := by decide +kernel
theorem dX11_compose_8 : decode cX11_compose 8 = .ok (.aload_n 0, 1) := by decide +kernel
theorem dX11_compose_9 : decode cX11_compose 9 = .ok (.iload_n 2, 1) := by decide +kernel
theorem dX11_compose_10 : decode cX11_compose 10 = .ok (.invokevirtual 113, 3) := by decide +kernel
theorem dX11_compose_13 : decode cX11_compose 13 = .ok (.ifCond .ne 6, 3) := by decide +kernel
theorem dX11_compose_16 : decode cX11_compose 16 = .ok (.bipush (-2), 2) := by decide +kernel
theorem dX11_compose_18 : decode cX11_compose 18 = .ok (.ireturn, 1) := by decide +kernel
theorem dX11_compose_19 : decode cX11_compose 19 = .ok (.aload_n 0, 1) := by decide +kernel
theorem dX11_compose_20 : decode cX11_compose 20 = .ok (.getfield 12, 3) := by decide +kernel
theorem dX11_compose_23 : decode cX11_compose 23 = .ok (.getfield 52, 3) := by decide +kernel
theorem dX11_compose_26 : decode cX11_compose 26 = .ok (.iload_n 1, 1) := by decide +kernel
theorem dX11_compose_27 : decode cX11_compose 27 = .ok (.iload_n 2, 1) := by decide +kernel
theorem dX11_compose_28 : decode cX11_compose 28 = .ok (.invokevirtual 131, 3) := by decide +kernel
theorem dX11_compose_31 : decode cX11_compose 31 = .ok (.ireturn, 1) := by decide +kernel
theorem dX11_converse_0 : decode cX11_converse 0 = .ok (.aload_n 0, 1) := by decide +kernel
theorem dX11_converse_1 : decode cX11_converse 1 = .ok (.iload_n 1, 1) := by decide +kernel
theorem dX11_converse_2 : decode cX11_converse 2 = .ok (.invokevirtual 113, 3) := by decide +kernel
theorem dX11_converse_5 : decode cX11_converse 5 = .ok (.ifCond .eq 17, 3) := by decide +kernel
theorem dX11_converse_8 : decode cX11_converse 8 = .ok (.aload_n 0, 1) := by decide +kernel
theorem dX11_converse_9 : decode cX11_converse 9 = .ok (.getfield 12, 3) := by decide +kernel
theorem dX11_converse_12 : decode cX11_converse 12 = .ok (.getfield 52, 3) := by decide +kernel
theorem dX11_converse_15 : decode cX11_converse 15 = .ok (.iload_n 1, 1) := by decide +kernel
theorem dX11_converse_16 : decode cX11_converse 16 = .ok (.invokevirtual 116, 3) := by decide +kernel
theorem dX11_converse_19 : decode cX11_converse 19 = .ok (.goto 5, 3) := by decide +kernel
theorem dX11_converse_22 : decode cX11_converse 22 = .ok (.bipush (-2), 2) := by decide +kernel
theorem dX11_converse_24 : decode cX11_converse 24 = .ok (.ireturn, 1) := by decide +kernel
theorem dX11_copy_0 : decode cX11_copy 0 = .ok (.iload_n 1, 1) := by decide +kernel
theorem dX11_copy_1 : decode cX11_copy 1 = .ok (.invokestatic 174, 3) := by decide +kernel
theorem dX11_copy_4 : decode cX11_copy 4 = .ok (.ifCond .eq 10, 3) := by decide +kernel
theorem dX11_copy_7 : decode cX11_copy 7 = .ok (.iload_n 2, 1) := by decide +kernel
theorem dX11_copy_8 : decode cX11_copy 8 = .ok (.invokestatic 174, 3) := by decide +kernel
theorem dX11_copy_11 : decode cX11_copy 11 = .ok (.ifCond .ne 5, 3) := by decide +kernel
theorem dX11_copy_14 : decode cX11_copy 14 = .ok (.iconst (-1), 1) := by decide +kernel
theorem dX11_copy_15 : decode cX11_copy 15 = .ok (.ireturn, 1) := by decide +kernel
theorem dX11_copy_16 : decode cX11_copy 16 = .ok (.aload_n 0, 1) := by decide +kernel
theorem dX11_copy_17 : decode cX11_copy 17 = .ok (.getfield 12, 3) := by decide +kernel
theorem dX11_copy_20 : decode cX11_copy 20 = .ok (.getfield 177, 3) := by decide +kernel
theorem dX11_copy_23 : decode cX11_copy 23 = .ok (.iload_n 2, 1) := by decide +kernel
theorem dX11_copy_24 : decode cX11_copy 24 = .ok (.aaload, 1) := by decide +kernel
theorem dX11_copy_25 : decode cX11_copy 25 = .ok (.aload_n 0, 1) := by decide +kernel
theorem dX11_copy_26 : decode cX11_copy 26 = .ok (.getfield 12, 3) := by decide +kernel
theorem dX11_copy_29 : decode cX11_copy 29 = .ok (.getfield 177, 3) := by decide +kernel
theorem dX11_copy_32 : decode cX11_copy 32 = .ok (.iload_n 1, 1) := by decide +kernel
theorem dX11_copy_33 : decode cX11_copy 33 = .ok (.aaload, 1) := by decide +kernel
theorem dX11_copy_34 : decode cX11_copy 34 = .ok (.invokevirtual 205, 3) := by decide +kernel
theorem dX11_copy_37 : decode cX11_copy 37 = .ok (.aload_n 0, 1) := by decide +kernel
theorem dX11_copy_38 : decode cX11_copy 38 = .ok (.getfield 12, 3) := by decide +kernel
theorem dX11_copy_41 : decode cX11_copy 41 = .ok (.getfield 177, 3) := by decide +kernel
theorem dX11_copy_44 : decode cX11_copy 44 = .ok (.iload_n 2, 1) := by decide +kernel
theorem dX11_copy_45 : decode cX11_copy 45 = .ok (.aaload, 1) := by decide +kernel
theorem dX11_copy_46 : decode cX11_copy 46 = .ok (.getfield 181, 3) := by decide +kernel
theorem dX11_copy_49 : decode cX11_copy 49 = .ok (.ireturn, 1) := by decide +kernel
theorem dX11_count_0 : decode cX11_count 0 = .ok (.iload_n 1, 1) := by decide +kernel
theorem dX11_count_1 : decode cX11_count 1 = .ok (.tableswitch 123 0 4 #[35, 46, 85, 93, 98], 35) := by decide +kernel
theorem dX11_count_36 : decode cX11_count 36 = .ok (.aload_n 0, 1) := by decide +kernel
theorem dX11_count_37 : decode cX11_count 37 = .ok (.getfield 12, 3) := by decide +kernel
theorem dX11_count_40 : decode cX11_count 40 = .ok (.getfield 52, 3) := by decide +kernel
theorem dX11_count_43 : decode cX11_count 43 = .ok (.getfield 88, 3) := by decide +kernel
theorem dX11_count_46 : decode cX11_count 46 = .ok (.ireturn, 1) := by decide +kernel
theorem dX11_count_47 : decode cX11_count 47 = .ok (.aload_n 0, 1) := by decide +kernel
theorem dX11_count_48 : decode cX11_count 48 = .ok (.getfield 12, 3) := by decide +kernel
theorem dX11_count_51 : decode cX11_count 51 = .ok (.getfield 177, 3) := by decide +kernel
theorem dX11_count_54 : decode cX11_count 54 = .ok (.iconst 0, 1) := by decide +kernel
theorem dX11_count_55 : decode cX11_count 55 = .ok (.aaload, 1) := by decide +kernel
theorem dX11_count_56 : decode cX11_count 56 = .ok (.getfield 181, 3) := by decide +kernel
theorem dX11_count_59 : decode cX11_count 59 = .ok (.aload_n 0, 1) := by decide +kernel
theorem dX11_count_60 : decode cX11_count 60 = .ok (.getfield 12, 3) := by decide +kernel
theorem dX11_count_63 : decode cX11_count 63 = .ok (.getfield 177, 3) := by decide +kernel
theorem dX11_count_66 : decode cX11_count 66 = .ok (.iconst 1, 1) := by decide +kernel
theorem dX11_count_67 : decode cX11_count 67 = .ok (.aaload, 1) := by decide +kernel
theorem dX11_count_68 : decode cX11_count 68 = .ok (.getfield 181, 3) := by decide +kernel
theorem dX11_count_71 : decode cX11_count 71 = .ok (.iadd, 1) := by decide +kernel
theorem dX11_count_72 : decode cX11_count 72 = .ok (.aload_n 0, 1) := by decide +kernel
theorem dX11_count_73 : decode cX11_count 73 = .ok (.getfield 12, 3) := by decide +kernel
theorem dX11_count_76 : decode cX11_count 76 = .ok (.getfield 177, 3) := by decide +kernel
theorem dX11_count_79 : decode cX11_count 79 = .ok (.iconst 2, 1) := by decide +kernel
theorem dX11_count_80 : decode cX11_count 80 = .ok (.aaload, 1) := by decide +kernel
theorem dX11_count_81 : decode cX11_count 81 = .ok (.getfield 181, 3) := by decide +kernel
theorem dX11_count_84 : decode cX11_count 84 = .ok (.iadd, 1) := by decide +kernel
theorem dX11_count_85 : decode cX11_count 85 = .ok (.ireturn, 1) := by decide +kernel
theorem dX11_count_86 : decode cX11_count 86 = .ok (.aload_n 0, 1) := by decide +kernel
theorem dX11_count_87 : decode cX11_count 87 = .ok (.getfield 81, 3) := by decide +kernel
theorem dX11_count_90 : decode cX11_count 90 = .ok (.getfield 293, 3) := by decide +kernel
theorem dX11_count_93 : decode cX11_count 93 = .ok (.ireturn, 1) := by decide +kernel
theorem dX11_count_94 : decode cX11_count 94 = .ok (.aload_n 0, 1) := by decide +kernel
theorem dX11_count_95 : decode cX11_count 95 = .ok (.invokevirtual 312, 3) := by decide +kernel
theorem dX11_count_98 : decode cX11_count 98 = .ok (.ireturn, 1) := by decide +kernel
theorem dX11_count_99 : decode cX11_count 99 = .ok (.aload_n 0, 1) := by decide +kernel
theorem dX11_count_100 : decode cX11_count 100 = .ok (.getfield 12, 3) := by decide +kernel
theorem dX11_count_103 : decode cX11_count 103 = .ok (.getfield 228, 3) := by decide +kernel
theorem dX11_count_106 : decode cX11_count 106 = .ok (.ifCond .eq 16, 3) := by decide +kernel
theorem dX11_count_109 : decode cX11_count 109 = .ok (.aload_n 0, 1) := by decide +kernel
theorem dX11_count_110 : decode cX11_count 110 = .ok (.getfield 12, 3) := by decide +kernel
theorem dX11_count_113 : decode cX11_count 113 = .ok (.getfield 231, 3) := by decide +kernel
theorem dX11_count_116 : decode cX11_count 116 = .ok (.getfield 181, 3) := by decide +kernel
theorem dX11_count_119 : decode cX11_count 119 = .ok (.goto 4, 3) := by decide +kernel
theorem dX11_count_122 : decode cX11_count 122 = .ok (.iconst 0, 1) := by decide +kernel
theorem dX11_count_123 : decode cX11_count 123 = .ok (.ireturn, 1) := by decide +kernel
theorem dX11_count_124 : decode cX11_count 124 = .ok (.iconst (-1), 1) := by decide +kernel
theorem dX11_count_125 : decode cX11_count 125 = .ok (.ireturn, 1) := by decide +kernel
theorem dX11_cycles_0 : decode cX11_cycles 0 = .ok (.iload_n 1, 1) := by decide +kernel
theorem dX11_cycles_1 : decode cX11_cycles 1 = .ok (.ifCond .lt 8, 3) := by decide +kernel
theorem dX11_cycles_4 : decode cX11_cycles 4 = .ok (.iload_n 1, 1) := by decide +kernel
theorem dX11_cycles_5 : decode cX11_cycles 5 = .ok (.iconst 3, 1) := by decide +kernel
theorem dX11_cycles_6 : decode cX11_cycles 6 = .ok (.if_icmp .le 5, 3) := by decide +kernel
theorem dX11_cycles_9 : decode cX11_cycles 9 = .ok (.iconst (-1), 1) := by decide +kernel
theorem dX11_cycles_10 : decode cX11_cycles 10 = .ok (.ireturn, 1) := by decide +kernel
theorem dX11_cycles_11 : decode cX11_cycles 11 = .ok (.iload_n 1, 1) := by decide +kernel
theorem dX11_cycles_12 : decode cX11_cycles 12 = .ok (.iconst 2, 1) := by decide +kernel
theorem dX11_cycles_13 : decode cX11_cycles 13 = .ok (.if_icmp .ne 19, 3) := by decide +kernel
theorem dX11_cycles_16 : decode cX11_cycles 16 = .ok (.aload_n 0, 1) := by decide +kernel
theorem dX11_cycles_17 : decode cX11_cycles 17 = .ok (.getfield 12, 3) := by decide +kernel
theorem dX11_cycles_20 : decode cX11_cycles 20 = .ok (.getfield 52, 3) := by decide +kernel
theorem dX11_cycles_23 : decode cX11_cycles 23 = .ok (.getfield 163, 3) := by decide +kernel
theorem dX11_cycles_26 : decode cX11_cycles 26 = .ok (.invokestatic 167, 3) := by decide +kernel
theorem dX11_cycles_29 : decode cX11_cycles 29 = .ok (.goto 14, 3) := by decide +kernel
theorem dX11_cycles_32 : decode cX11_cycles 32 = .ok (.aload_n 0, 1) := by decide +kernel
theorem dX11_cycles_33 : decode cX11_cycles 33 = .ok (.getfield 12, 3) := by decide +kernel
theorem dX11_cycles_36 : decode cX11_cycles 36 = .ok (.getfield 52, 3) := by decide +kernel
theorem dX11_cycles_39 : decode cX11_cycles 39 = .ok (.iload_n 1, 1) := by decide +kernel
theorem dX11_cycles_40 : decode cX11_cycles 40 = .ok (.invokevirtual 171, 3) := by decide +kernel
theorem dX11_cycles_43 : decode cX11_cycles 43 = .ok (.ireturn, 1) := by decide +kernel
theorem dX11_drop_0 : decode cX11_drop 0 = .ok (.iload_n 1, 1) := by decide +kernel
theorem dX11_drop_1 : decode cX11_drop 1 = .ok (.invokestatic 174, 3) := by decide +kernel
theorem dX11_drop_4 : decode cX11_drop 4 = .ok (.ifCond .ne 5, 3) := by decide +kernel
theorem dX11_drop_7 : decode cX11_drop 7 = .ok (.iconst (-1), 1) := by decide +kernel
theorem dX11_drop_8 : decode cX11_drop 8 = .ok (.ireturn, 1) := by decide +kernel
theorem dX11_drop_9 : decode cX11_drop 9 = .ok (.aload_n 0, 1) := by decide +kernel
theorem dX11_drop_10 : decode cX11_drop 10 = .ok (.getfield 12, 3) := by decide +kernel
theorem dX11_drop_13 : decode cX11_drop 13 = .ok (.getfield 177, 3) := by decide +kernel
theorem dX11_drop_16 : decode cX11_drop 16 = .ok (.iload_n 1, 1) := by decide +kernel
theorem dX11_drop_17 : decode cX11_drop 17 = .ok (.aaload, 1) := by decide +kernel
theorem dX11_drop_18 : decode cX11_drop 18 = .ok (.astore_n 2, 1) := by decide +kernel
theorem dX11_drop_19 : decode cX11_drop 19 = .ok (.aload_n 2, 1) := by decide +kernel
theorem dX11_drop_20 : decode cX11_drop 20 = .ok (.getfield 181, 3) := by decide +kernel
theorem dX11_drop_23 : decode cX11_drop 23 = .ok (.ifCond .ne 6, 3) := by decide +kernel
theorem dX11_drop_26 : decode cX11_drop 26 = .ok (.bipush (-3), 2) := by decide +kernel
theorem dX11_drop_28 : decode cX11_drop 28 = .ok (.ireturn, 1) := by decide +kernel
theorem dX11_drop_29 : decode cX11_drop 29 = .ok (.aload_n 2, 1) := by decide +kernel
theorem dX11_drop_30 : decode cX11_drop 30 = .ok (.dup, 1) := by decide +kernel
theorem dX11_drop_31 : decode cX11_drop 31 = .ok (.getfield 181, 3) := by decide +kernel
theorem dX11_drop_34 : decode cX11_drop 34 = .ok (.iconst 1, 1) := by decide +kernel
theorem dX11_drop_35 : decode cX11_drop 35 = .ok (.isub, 1) := by decide +kernel
theorem dX11_drop_36 : decode cX11_drop 36 = .ok (.putfield 181, 3) := by decide +kernel
theorem dX11_drop_39 : decode cX11_drop 39 = .ok (.aload_n 2, 1) := by decide +kernel
theorem dX11_drop_40 : decode cX11_drop 40 = .ok (.getfield 181, 3) := by decide +kernel
theorem dX11_drop_43 : decode cX11_drop 43 = .ok (.ireturn, 1) := by decide +kernel
theorem dX11_equivalence_0 : decode cX11_equivalence 0 = .ok (.iload_n 1, 1) := by decide +kernel
theorem dX11_equivalence_1 : decode cX11_equivalence 1 = .ok (.iconst (-1), 1) := by decide +kernel
theorem dX11_equivalence_2 : decode cX11_equivalence 2 = .ok (.if_icmp .ge 5, 3) := by decide +kernel
theorem dX11_equivalence_5 : decode cX11_equivalence 5 = .ok (.iconst (-1), 1) := by decide +kernel
theorem dX11_equivalence_6 : decode cX11_equivalence 6 = .ok (.ireturn, 1) := by decide +kernel
theorem dX11_equivalence_7 : decode cX11_equivalence 7 = .ok (.iconst 0, 1) := by decide +kernel
theorem dX11_equivalence_8 : decode cX11_equivalence 8 = .ok (.istore_n 2, 1) := by decide +kernel
theorem dX11_equivalence_9 : decode cX11_equivalence 9 = .ok (.iconst 0, 1) := by decide +kernel
theorem dX11_equivalence_10 : decode cX11_equivalence 10 = .ok (.istore_n 3, 1) := by decide +kernel
theorem dX11_equivalence_11 : decode cX11_equivalence 11 = .ok (.iload_n 3, 1) := by decide +kernel
theorem dX11_equivalence_12 : decode cX11_equivalence 12 = .ok (.aload_n 0, 1) := by decide +kernel
theorem dX11_equivalence_13 : decode cX11_equivalence 13 = .ok (.getfield 12, 3) := by decide +kernel
theorem dX11_equivalence_16 : decode cX11_equivalence 16 = .ok (.getfield 52, 3) := by decide +kernel
theorem dX11_equivalence_19 : decode cX11_equivalence 19 = .ok (.invokevirtual 146, 3) := by decide +kernel
theorem dX11_equivalence_22 : decode cX11_equivalence 22 = .ok (.if_icmp .ge 33, 3) := by decide +kernel
theorem dX11_equivalence_25 : decode cX11_equivalence 25 = .ok (.aload_n 0, 1) := by decide +kernel
theorem dX11_equivalence_26 : decode cX11_equivalence 26 = .ok (.getfield 12, 3) := by decide +kernel
theorem dX11_equivalence_29 : decode cX11_equivalence 29 = .ok (.getfield 52, 3) := by decide +kernel
theorem dX11_equivalence_32 : decode cX11_equivalence 32 = .ok (.iload_n 3, 1) := by decide +kernel
theorem dX11_equivalence_33 : decode cX11_equivalence 33 = .ok (.invokevirtual 149, 3) := by decide +kernel
theorem dX11_equivalence_36 : decode cX11_equivalence 36 = .ok (.ifCond .eq 13, 3) := by decide +kernel
theorem dX11_equivalence_39 : decode cX11_equivalence 39 = .ok (.iload_n 2, 1) := by decide +kernel
theorem dX11_equivalence_40 : decode cX11_equivalence 40 = .ok (.iload_n 1, 1) := by decide +kernel
theorem dX11_equivalence_41 : decode cX11_equivalence 41 = .ok (.if_icmp .ne 5, 3) := by decide +kernel
theorem dX11_equivalence_44 : decode cX11_equivalence 44 = .ok (.iload_n 3, 1) := by decide +kernel
theorem dX11_equivalence_45 : decode cX11_equivalence 45 = .ok (.ireturn, 1) := by decide +kernel
theorem dX11_equivalence_46 : decode cX11_equivalence 46 = .ok (.iinc 2 1, 3) := by decide +kernel
theorem dX11_equivalence_49 : decode cX11_equivalence 49 = .ok (.iinc 3 1, 3) := by decide +kernel
theorem dX11_equivalence_52 : decode cX11_equivalence 52 = .ok (.goto (-41), 3) := by decide +kernel
theorem dX11_equivalence_55 : decode cX11_equivalence 55 = .ok (.iload_n 1, 1) := by decide +kernel
theorem dX11_equivalence_56 : decode cX11_equivalence 56 = .ok (.iconst (-1), 1) := by decide +kernel
theorem dX11_equivalence_57 : decode cX11_equivalence 57 = .ok (.if_icmp .ne 7, 3) := by decide +kernel
theorem dX11_equivalence_60 : decode cX11_equivalence 60 = .ok (.iload_n 2, 1) := by decide +kernel
theorem dX11_equivalence_61 : decode cX11_equivalence 61 = .ok (.goto 4, 3) := by decide +kernel
theorem dX11_equivalence_64 : decode cX11_equivalence 64 = .ok (.iconst (-1), 1) := by decide +kernel
theorem dX11_equivalence_65 : decode cX11_equivalence 65 = .ok (.ireturn, 1) := by decide +kernel
theorem dX11_feed_0 : decode cX11_feed 0 = .ok (.iload_n 1, 1) := by decide +kernel
theorem dX11_feed_1 : decode cX11_feed 1 = .ok (.bipush 32, 2) := by decide +kernel
theorem dX11_feed_3 : decode cX11_feed 3 = .ok (.if_icmp .lt 9, 3) := by decide +kernel
theorem dX11_feed_6 : decode cX11_feed 6 = .ok (.iload_n 1, 1) := by decide +kernel
theorem dX11_feed_7 : decode cX11_feed 7 = .ok (.bipush 126, 2) := by decide +kernel
theorem dX11_feed_9 : decode cX11_feed 9 = .ok (.if_icmp .le 6, 3) := by decide +kernel
theorem dX11_feed_12 : decode cX11_feed 12 = .ok (.bipush (-2), 2) := by decide +kernel
theorem dX11_feed_14 : decode cX11_feed 14 = .ok (.ireturn, 1) := by decide +kernel
theorem dX11_feed_15 : decode cX11_feed 15 = .ok (.aload_n 0, 1) := by decide +kernel
theorem dX11_feed_16 : decode cX11_feed 16 = .ok (.getfield 81, 3) := by decide +kernel
theorem dX11_feed_19 : decode cX11_feed 19 = .ok (.getfield 293, 3) := by decide +kernel
theorem dX11_feed_22 : decode cX11_feed 22 = .ok (.bipush 100, 2) := by decide +kernel
theorem dX11_feed_24 : decode cX11_feed 24 = .ok (.if_icmp .lt 6, 3) := by decide +kernel
theorem dX11_feed_27 : decode cX11_feed 27 = .ok (.bipush (-4), 2) := by decide +kernel
theorem dX11_feed_29 : decode cX11_feed 29 = .ok (.ireturn, 1) := by decide +kernel
theorem dX11_feed_30 : decode cX11_feed 30 = .ok (.aload_n 0, 1) := by decide +kernel
theorem dX11_feed_31 : decode cX11_feed 31 = .ok (.getfield 81, 3) := by decide +kernel
theorem dX11_feed_34 : decode cX11_feed 34 = .ok (.iload_n 1, 1) := by decide +kernel
theorem dX11_feed_35 : decode cX11_feed 35 = .ok (.invokevirtual 294, 3) := by decide +kernel
theorem dX11_feed_38 : decode cX11_feed 38 = .ok (.aload_n 0, 1) := by decide +kernel
theorem dX11_feed_39 : decode cX11_feed 39 = .ok (.getfield 81, 3) := by decide +kernel
theorem dX11_feed_42 : decode cX11_feed 42 = .ok (.getfield 293, 3) := by decide +kernel
theorem dX11_feed_45 : decode cX11_feed 45 = .ok (.ireturn, 1) := by decide +kernel
theorem dX11_fills_0 : decode cX11_fills 0 = .ok (.iload_n 1, 1) := by decide +kernel
theorem dX11_fills_1 : decode cX11_fills 1 = .ok (.invokestatic 174, 3) := by decide +kernel
theorem dX11_fills_4 : decode cX11_fills 4 = .ok (.ifCond .eq 8, 3) := by decide +kernel
theorem dX11_fills_7 : decode cX11_fills 7 = .ok (.iload_n 3, 1) := by decide +kernel
theorem dX11_fills_8 : decode cX11_fills 8 = .ok (.iconst (-1), 1) := by decide +kernel
theorem dX11_fills_9 : decode cX11_fills 9 = .ok (.if_icmp .ge 5, 3) := by decide +kernel
theorem dX11_fills_12 : decode cX11_fills 12 = .ok (.iconst (-1), 1) := by decide +kernel
theorem dX11_fills_13 : decode cX11_fills 13 = .ok (.ireturn, 1) := by decide +kernel
theorem dX11_fills_14 : decode cX11_fills 14 = .ok (.aload_n 0, 1) := by decide +kernel
theorem dX11_fills_15 : decode cX11_fills 15 = .ok (.getfield 12, 3) := by decide +kernel
theorem dX11_fills_18 : decode cX11_fills 18 = .ok (.getfield 177, 3) := by decide +kernel
theorem dX11_fills_21 : decode cX11_fills 21 = .ok (.iload_n 1, 1) := by decide +kernel
theorem dX11_fills_22 : decode cX11_fills 22 = .ok (.aaload, 1) := by decide +kernel
theorem dX11_fills_23 : decode cX11_fills 23 = .ok (.astore 4, 2) := by decide +kernel
theorem dX11_fills_25 : decode cX11_fills 25 = .ok (.aload 4, 2) := by decide +kernel
theorem dX11_fills_27 : decode cX11_fills 27 = .ok (.aload_n 0, 1) := by decide +kernel
theorem dX11_fills_28 : decode cX11_fills 28 = .ok (.getfield 12, 3) := by decide +kernel
theorem dX11_fills_31 : decode cX11_fills 31 = .ok (.getfield 52, 3) := by decide +kernel
theorem dX11_fills_34 : decode cX11_fills 34 = .ok (.iload_n 2, 1) := by decide +kernel
theorem dX11_fills_35 : decode cX11_fills 35 = .ok (.invokevirtual 217, 3) := by decide +kernel
theorem dX11_fills_38 : decode cX11_fills 38 = .ok (.ifCond .ne 6, 3) := by decide +kernel
theorem dX11_fills_41 : decode cX11_fills 41 = .ok (.bipush (-2), 2) := by decide +kernel
theorem dX11_fills_43 : decode cX11_fills 43 = .ok (.ireturn, 1) := by decide +kernel
theorem dX11_fills_44 : decode cX11_fills 44 = .ok (.aload 4, 2) := by decide +kernel
theorem dX11_fills_46 : decode cX11_fills 46 = .ok (.aload_n 0, 1) := by decide +kernel
theorem dX11_fills_47 : decode cX11_fills 47 = .ok (.getfield 12, 3) := by decide +kernel
theorem dX11_fills_50 : decode cX11_fills 50 = .ok (.getfield 52, 3) := by decide +kernel
theorem dX11_fills_53 : decode cX11_fills 53 = .ok (.invokevirtual 209, 3) := by decide +kernel
theorem dX11_fills_56 : decode cX11_fills 56 = .ok (.bipush (-5), 2) := by decide +kernel
theorem dX11_fills_58 : decode cX11_fills 58 = .ok (.if_icmp .eq 6, 3) := by decide +kernel
theorem dX11_fills_61 : decode cX11_fills 61 = .ok (.bipush (-3), 2) := by decide +kernel
theorem dX11_fills_63 : decode cX11_fills 63 = .ok (.ireturn, 1) := by decide +kernel
theorem dX11_fills_64 : decode cX11_fills 64 = .ok (.aload 4, 2) := by decide +kernel
theorem dX11_fills_66 : decode cX11_fills 66 = .ok (.getfield 181, 3) := by decide +kernel
theorem dX11_fills_69 : decode cX11_fills 69 = .ok (.bipush 6, 2) := by decide +kernel
theorem dX11_fills_71 : decode cX11_fills 71 = .ok (.if_icmp .lt 6, 3) := by decide +kernel
theorem dX11_fills_74 : decode cX11_fills 74 = .ok (.bipush (-4), 2) := by decide +kernel
theorem dX11_fills_76 : decode cX11_fills 76 = .ok (.ireturn, 1) := by decide +kernel
theorem dX11_fills_77 : decode cX11_fills 77 = .ok (.aload_n 0, 1) := by decide +kernel
theorem dX11_fills_78 : decode cX11_fills 78 = .ok (.getfield 39, 3) := by decide +kernel
theorem dX11_fills_81 : decode cX11_fills 81 = .ok (.aload 4, 2) := by decide +kernel
theorem dX11_fills_83 : decode cX11_fills 83 = .ok (.iload_n 2, 1) := by decide +kernel
theorem dX11_fills_84 : decode cX11_fills 84 = .ok (.iload_n 3, 1) := by decide +kernel
theorem dX11_fills_85 : decode cX11_fills 85 = .ok (.invokevirtual 221, 3) := by decide +kernel
theorem dX11_fills_88 : decode cX11_fills 88 = .ok (.ireturn, 1) := by decide +kernel
theorem dX11_forbid_0 : decode cX11_forbid 0 = .ok (.iload_n 1, 1) := by decide +kernel
theorem dX11_forbid_1 : decode cX11_forbid 1 = .ok (.iconst (-1), 1) := by decide +kernel
theorem dX11_forbid_2 : decode cX11_forbid 2 = .ok (.if_icmp .eq 12, 3) := by decide +kernel
theorem dX11_forbid_5 : decode cX11_forbid 5 = .ok (.iload_n 1, 1) := by decide +kernel
theorem dX11_forbid_6 : decode cX11_forbid 6 = .ok (.invokestatic 174, 3) := by decide +kernel
theorem dX11_forbid_9 : decode cX11_forbid 9 = .ok (.ifCond .ne 5, 3) := by decide +kernel
theorem dX11_forbid_12 : decode cX11_forbid 12 = .ok (.iconst (-1), 1) := by decide +kernel
theorem dX11_forbid_13 : decode cX11_forbid 13 = .ok (.ireturn, 1) := by decide +kernel
theorem dX11_forbid_14 : decode cX11_forbid 14 = .ok (.aload_n 0, 1) := by decide +kernel
theorem dX11_forbid_15 : decode cX11_forbid 15 = .ok (.getfield 12, 3) := by decide +kernel
theorem dX11_forbid_18 : decode cX11_forbid 18 = .ok (.getfield 228, 3) := by decide +kernel
theorem dX11_forbid_21 : decode cX11_forbid 21 = .ok (.ifCond .eq 16, 3) := by decide +kernel
theorem dX11_forbid_24 : decode cX11_forbid 24 = .ok (.aload_n 0, 1) := by decide +kernel
theorem dX11_forbid_25 : decode cX11_forbid 25 = .ok (.getfield 12, 3) := by decide +kernel
theorem dX11_forbid_28 : decode cX11_forbid 28 = .ok (.getfield 231, 3) := by decide +kernel
theorem dX11_forbid_31 : decode cX11_forbid 31 = .ok (.getfield 181, 3) := by decide +kernel
theorem dX11_forbid_34 : decode cX11_forbid 34 = .ok (.goto 5, 3) := by decide +kernel
theorem dX11_forbid_37 : decode cX11_forbid 37 = .ok (.bipush (-5), 2) := by decide +kernel
theorem dX11_forbid_39 : decode cX11_forbid 39 = .ok (.istore_n 2, 1) := by decide +kernel
theorem dX11_forbid_40 : decode cX11_forbid 40 = .ok (.aload_n 0, 1) := by decide +kernel
theorem dX11_forbid_41 : decode cX11_forbid 41 = .ok (.getfield 12, 3) := by decide +kernel
theorem dX11_forbid_44 : decode cX11_forbid 44 = .ok (.iload_n 1, 1) := by decide +kernel
theorem dX11_forbid_45 : decode cX11_forbid 45 = .ok (.iconst (-1), 1) := by decide +kernel
theorem dX11_forbid_46 : decode cX11_forbid 46 = .ok (.if_icmp .eq 7, 3) := by decide +kernel
theorem dX11_forbid_49 : decode cX11_forbid 49 = .ok (.iconst 1, 1) := by decide +kernel
theorem dX11_forbid_50 : decode cX11_forbid 50 = .ok (.goto 4, 3) := by decide +kernel
theorem dX11_forbid_53 : decode cX11_forbid 53 = .ok (.iconst 0, 1) := by decide +kernel
theorem dX11_forbid_54 : decode cX11_forbid 54 = .ok (.putfield 228, 3) := by decide +kernel
theorem dX11_forbid_57 : decode cX11_forbid 57 = .ok (.aload_n 0, 1) := by decide +kernel
theorem dX11_forbid_58 : decode cX11_forbid 58 = .ok (.getfield 12, 3) := by decide +kernel
theorem dX11_forbid_61 : decode cX11_forbid 61 = .ok (.getfield 228, 3) := by decide +kernel
theorem dX11_forbid_64 : decode cX11_forbid 64 = .ok (.ifCond .eq 22, 3) := by decide +kernel
theorem dX11_forbid_67 : decode cX11_forbid 67 = .ok (.aload_n 0, 1) := by decide +kernel
theorem dX11_forbid_68 : decode cX11_forbid 68 = .ok (.getfield 12, 3) := by decide +kernel
theorem dX11_forbid_71 : decode cX11_forbid 71 = .ok (.getfield 231, 3) := by decide +kernel
theorem dX11_forbid_74 : decode cX11_forbid 74 = .ok (.aload_n 0, 1) := by decide +kernel
theorem dX11_forbid_75 : decode cX11_forbid 75 = .ok (.getfield 12, 3) := by decide +kernel
theorem dX11_forbid_78 : decode cX11_forbid 78 = .ok (.getfield 177, 3) := by decide +kernel
theorem dX11_forbid_81 : decode cX11_forbid 81 = .ok (.iload_n 1, 1) := by decide +kernel
theorem dX11_forbid_82 : decode cX11_forbid 82 = .ok (.aaload, 1) := by decide +kernel
theorem dX11_forbid_83 : decode cX11_forbid 83 = .ok (.invokevirtual 205, 3) := by decide +kernel
theorem dX11_forbid_86 : decode cX11_forbid 86 = .ok (.iload_n 2, 1) := by decide +kernel
theorem dX11_forbid_87 : decode cX11_forbid 87 = .ok (.ireturn, 1) := by decide +kernel
theorem dX11_forgetNetworks_0 : decode cX11_forgetNetworks 0 = .ok (.aload_n 0, 1) := by decide +kernel
theorem dX11_forgetNetworks_1 : decode cX11_forgetNetworks 1 = .ok (.getfield 12, 3) := by decide +kernel
theorem dX11_forgetNetworks_4 : decode cX11_forgetNetworks 4 = .ok (.invokevirtual 315, 3) := by decide +kernel
theorem dX11_forgetNetworks_7 : decode cX11_forgetNetworks 7 = .ok (.aload_n 0, 1) := by decide +kernel
theorem dX11_forgetNetworks_8 : decode cX11_forgetNetworks 8 = .ok (.getfield 59, 3) := by decide +kernel
theorem dX11_forgetNetworks_11 : decode cX11_forgetNetworks 11 = .ok (.iconst 0, 1) := by decide +kernel
theorem dX11_forgetNetworks_12 : decode cX11_forgetNetworks 12 = .ok (.putfield 255, 3) := by decide +kernel
theorem dX11_forgetNetworks_15 : decode cX11_forgetNetworks 15 = .ok (.return_, 1) := by decide +kernel
theorem dX11_found_0 : decode cX11_found 0 = .ok (.iload_n 1, 1) := by decide +kernel
theorem dX11_found_1 : decode cX11_found 1 = .ok (.invokestatic 278, 3) := by decide +kernel
theorem dX11_found_4 : decode cX11_found 4 = .ok (.ifCond .ne 5, 3) := by decide +kernel
theorem dX11_found_7 : decode cX11_found 7 = .ok (.iconst (-1), 1) := by decide +kernel
theorem dX11_found_8 : decode cX11_found 8 = .ok (.ireturn, 1) := by decide +kernel
theorem dX11_found_9 : decode cX11_found 9 = .ok (.aload_n 0, 1) := by decide +kernel
theorem dX11_found_10 : decode cX11_found 10 = .ok (.getfield 66, 3) := by decide +kernel
theorem dX11_found_13 : decode cX11_found 13 = .ok (.invokevirtual 285, 3) := by decide +kernel
theorem dX11_found_16 : decode cX11_found 16 = .ok (.istore_n 2, 1) := by decide +kernel
theorem dX11_found_17 : decode cX11_found 17 = .ok (.iload_n 2, 1) := by decide +kernel
theorem dX11_found_18 : decode cX11_found 18 = .ok (.bipush (-5), 2) := by decide +kernel
theorem dX11_found_20 : decode cX11_found 20 = .ok (.if_icmp .ne 6, 3) := by decide +kernel
theorem dX11_found_23 : decode cX11_found 23 = .ok (.bipush (-5), 2) := by decide +kernel
theorem dX11_found_25 : decode cX11_found 25 = .ok (.ireturn, 1) := by decide +kernel
theorem dX11_found_26 : decode cX11_found 26 = .ok (.aload_n 0, 1) := by decide +kernel
theorem dX11_found_27 : decode cX11_found 27 = .ok (.getfield 70, 3) := by decide +kernel
theorem dX11_found_30 : decode cX11_found 30 = .ok (.iload_n 1, 1) := by decide +kernel
theorem dX11_found_31 : decode cX11_found 31 = .ok (.iload_n 2, 1) := by decide +kernel
theorem dX11_found_32 : decode cX11_found 32 = .ok (.iconst 1, 1) := by decide +kernel
theorem dX11_found_33 : decode cX11_found 33 = .ok (.isub, 1) := by decide +kernel
theorem dX11_found_34 : decode cX11_found 34 = .ok (.iastore, 1) := by decide +kernel
theorem dX11_found_35 : decode cX11_found 35 = .ok (.iconst 1, 1) := by decide +kernel
theorem dX11_found_36 : decode cX11_found 36 = .ok (.istore_n 3, 1) := by decide +kernel
theorem dX11_found_37 : decode cX11_found 37 = .ok (.iload_n 3, 1) := by decide +kernel
theorem dX11_found_38 : decode cX11_found 38 = .ok (.iload_n 2, 1) := by decide +kernel
theorem dX11_found_39 : decode cX11_found 39 = .ok (.if_icmp .ge 32, 3) := by decide +kernel
theorem dX11_found_42 : decode cX11_found 42 = .ok (.aload_n 0, 1) := by decide +kernel
theorem dX11_found_43 : decode cX11_found 43 = .ok (.getfield 74, 3) := by decide +kernel
theorem dX11_found_46 : decode cX11_found 46 = .ok (.bipush 12, 2) := by decide +kernel
theorem dX11_found_48 : decode cX11_found 48 = .ok (.iload_n 1, 1) := by decide +kernel
theorem dX11_found_49 : decode cX11_found 49 = .ok (.imul, 1) := by decide +kernel
theorem dX11_found_50 : decode cX11_found 50 = .ok (.iload_n 3, 1) := by decide +kernel
theorem dX11_found_51 : decode cX11_found 51 = .ok (.iadd, 1) := by decide +kernel
theorem dX11_found_52 : decode cX11_found 52 = .ok (.iconst 1, 1) := by decide +kernel
theorem dX11_found_53 : decode cX11_found 53 = .ok (.isub, 1) := by decide +kernel
theorem dX11_found_54 : decode cX11_found 54 = .ok (.aload_n 0, 1) := by decide +kernel
theorem dX11_found_55 : decode cX11_found 55 = .ok (.getfield 66, 3) := by decide +kernel
theorem dX11_found_58 : decode cX11_found 58 = .ok (.getfield 288, 3) := by decide +kernel
theorem dX11_found_61 : decode cX11_found 61 = .ok (.iload_n 3, 1) := by decide +kernel
theorem dX11_found_62 : decode cX11_found 62 = .ok (.iaload, 1) := by decide +kernel
theorem dX11_found_63 : decode cX11_found 63 = .ok (.i2l, 1) := by decide +kernel
theorem dX11_found_64 : decode cX11_found 64 = .ok (.lastore, 1) := by decide +kernel
theorem dX11_found_65 : decode cX11_found 65 = .ok (.iinc 3 1, 3) := by decide +kernel
theorem dX11_found_68 : decode cX11_found 68 = .ok (.goto (-31), 3) := by decide +kernel
theorem dX11_found_71 : decode cX11_found 71 = .ok (.iload_n 2, 1) := by decide +kernel
theorem dX11_found_72 : decode cX11_found 72 = .ok (.ireturn, 1) := by decide +kernel
theorem dX11_gameRefusal_0 : decode cX11_gameRefusal 0 = .ok (.iload_n 1, 1) := by decide +kernel
theorem dX11_gameRefusal_1 : decode cX11_gameRefusal 1 = .ok (.invokestatic 174, 3) := by decide +kernel
theorem dX11_gameRefusal_4 : decode cX11_gameRefusal 4 = .ok (.ifCond .ne 5, 3) := by decide +kernel
theorem dX11_gameRefusal_7 : decode cX11_gameRefusal 7 = .ok (.iconst (-1), 1) := by decide +kernel
theorem dX11_gameRefusal_8 : decode cX11_gameRefusal 8 = .ok (.ireturn, 1) := by decide +kernel
theorem dX11_gameRefusal_9 : decode cX11_gameRefusal 9 = .ok (.iload_n 2, 1) := by decide +kernel
theorem dX11_gameRefusal_10 : decode cX11_gameRefusal 10 = .ok (.ifCond .lt 8, 3) := by decide +kernel
theorem dX11_gameRefusal_13 : decode cX11_gameRefusal 13 = .ok (.iload_n 2, 1) := by decide +kernel
theorem dX11_gameRefusal_14 : decode cX11_gameRefusal 14 = .ok (.iconst 2, 1) := by decide +kernel
theorem dX11_gameRefusal_15 : decode cX11_gameRefusal 15 = .ok (.if_icmp .le 6, 3) := by decide +kernel
theorem dX11_gameRefusal_18 : decode cX11_gameRefusal 18 = .ok (.bipush (-2), 2) := by decide +kernel
theorem dX11_gameRefusal_20 : decode cX11_gameRefusal 20 = .ok (.ireturn, 1) := by decide +kernel
theorem dX11_gameRefusal_21 : decode cX11_gameRefusal 21 = .ok (.aload_n 0, 1) := by decide +kernel
theorem dX11_gameRefusal_22 : decode cX11_gameRefusal 22 = .ok (.getfield 12, 3) := by decide +kernel
theorem dX11_gameRefusal_25 : decode cX11_gameRefusal 25 = .ok (.getfield 177, 3) := by decide +kernel
theorem dX11_gameRefusal_28 : decode cX11_gameRefusal 28 = .ok (.iload_n 1, 1) := by decide +kernel
theorem dX11_gameRefusal_29 : decode cX11_gameRefusal 29 = .ok (.aaload, 1) := by decide +kernel
theorem dX11_gameRefusal_30 : decode cX11_gameRefusal 30 = .ok (.getfield 181, 3) := by decide +kernel
theorem dX11_gameRefusal_33 : decode cX11_gameRefusal 33 = .ok (.iconst 3, 1) := by decide +kernel
theorem dX11_gameRefusal_34 : decode cX11_gameRefusal 34 = .ok (.if_icmp .gt 19, 3) := by decide +kernel
theorem dX11_gameRefusal_37 : decode cX11_gameRefusal 37 = .ok (.aload_n 0, 1) := by decide +kernel
theorem dX11_gameRefusal_38 : decode cX11_gameRefusal 38 = .ok (.aload_n 0, 1) := by decide +kernel
theorem dX11_gameRefusal_39 : decode cX11_gameRefusal 39 = .ok (.getfield 12, 3) := by decide +kernel
theorem dX11_gameRefusal_42 : decode cX11_gameRefusal 42 = .ok (.getfield 177, 3) := by decide +kernel
theorem dX11_gameRefusal_45 : decode cX11_gameRefusal 45 = .ok (.iload_n 1, 1) := by decide +kernel
theorem dX11_gameRefusal_46 : decode cX11_gameRefusal 46 = .ok (.aaload, 1) := by decide +kernel
theorem dX11_gameRefusal_47 : decode cX11_gameRefusal 47 = .ok (.invokevirtual 245, 3) := by decide +kernel
theorem dX11_gameRefusal_50 : decode cX11_gameRefusal 50 = .ok (.ifCond .ne 6, 3) := by decide +kernel
theorem dX11_gameRefusal_53 : decode cX11_gameRefusal 53 = .ok (.bipush (-3), 2) := by decide +kernel
theorem dX11_gameRefusal_55 : decode cX11_gameRefusal 55 = .ok (.ireturn, 1) := by decide +kernel
theorem dX11_gameRefusal_56 : decode cX11_gameRefusal 56 = .ok (.iconst 0, 1) := by decide +kernel
theorem dX11_gameRefusal_57 : decode cX11_gameRefusal 57 = .ok (.ireturn, 1) := by decide +kernel
theorem dX11_gap_0 : decode cX11_gap 0 = .ok (.iload_n 1, 1) := by decide +kernel
theorem dX11_gap_1 : decode cX11_gap 1 = .ok (.invokestatic 174, 3) := by decide +kernel
theorem dX11_gap_4 : decode cX11_gap 4 = .ok (.ifCond .eq 8, 3) := by decide +kernel
theorem dX11_gap_7 : decode cX11_gap 7 = .ok (.iload_n 2, 1) := by decide +kernel
theorem dX11_gap_8 : decode cX11_gap 8 = .ok (.iconst (-1), 1) := by decide +kernel
theorem dX11_gap_9 : decode cX11_gap 9 = .ok (.if_icmp .ge 5, 3) := by decide +kernel
theorem dX11_gap_12 : decode cX11_gap 12 = .ok (.iconst (-1), 1) := by decide +kernel
theorem dX11_gap_13 : decode cX11_gap 13 = .ok (.ireturn, 1) := by decide +kernel
theorem dX11_gap_14 : decode cX11_gap 14 = .ok (.aload_n 0, 1) := by decide +kernel
theorem dX11_gap_15 : decode cX11_gap 15 = .ok (.getfield 12, 3) := by decide +kernel
theorem dX11_gap_18 : decode cX11_gap 18 = .ok (.getfield 177, 3) := by decide +kernel
theorem dX11_gap_21 : decode cX11_gap 21 = .ok (.iload_n 1, 1) := by decide +kernel
theorem dX11_gap_22 : decode cX11_gap 22 = .ok (.aaload, 1) := by decide +kernel
theorem dX11_gap_23 : decode cX11_gap 23 = .ok (.aload_n 0, 1) := by decide +kernel
theorem dX11_gap_24 : decode cX11_gap 24 = .ok (.getfield 12, 3) := by decide +kernel
theorem dX11_gap_27 : decode cX11_gap 27 = .ok (.getfield 52, 3) := by decide +kernel
theorem dX11_gap_30 : decode cX11_gap 30 = .ok (.iload_n 2, 1) := by decide +kernel
theorem dX11_gap_31 : decode cX11_gap 31 = .ok (.invokevirtual 213, 3) := by decide +kernel
theorem dX11_gap_34 : decode cX11_gap 34 = .ok (.ireturn, 1) := by decide +kernel
theorem dX11_get_0 : decode cX11_get 0 = .ok (.iload_n 1, 1) := by decide +kernel
theorem dX11_get_1 : decode cX11_get 1 = .ok (.invokestatic 278, 3) := by decide +kernel
theorem dX11_get_4 : decode cX11_get 4 = .ok (.ifCond .eq 17, 3) := by decide +kernel
theorem dX11_get_7 : decode cX11_get 7 = .ok (.iload_n 2, 1) := by decide +kernel
theorem dX11_get_8 : decode cX11_get 8 = .ok (.ifCond .lt 13, 3) := by decide +kernel
theorem dX11_get_11 : decode cX11_get 11 = .ok (.iload_n 2, 1) := by decide +kernel
theorem dX11_get_12 : decode cX11_get 12 = .ok (.aload_n 0, 1) := by decide +kernel
theorem dX11_get_13 : decode cX11_get 13 = .ok (.getfield 70, 3) := by decide +kernel
theorem dX11_get_16 : decode cX11_get 16 = .ok (.iload_n 1, 1) := by decide +kernel
theorem dX11_get_17 : decode cX11_get 17 = .ok (.iaload, 1) := by decide +kernel
theorem dX11_get_18 : decode cX11_get 18 = .ok (.if_icmp .lt 7, 3) := by decide +kernel
theorem dX11_get_21 : decode cX11_get 21 = .ok (.ldc2_w 291, 3) := by decide +kernel
theorem dX11_get_24 : decode cX11_get 24 = .ok (.lreturn, 1) := by decide +kernel
theorem dX11_get_25 : decode cX11_get 25 = .ok (.aload_n 0, 1) := by decide +kernel
theorem dX11_get_26 : decode cX11_get 26 = .ok (.getfield 74, 3) := by decide +kernel
theorem dX11_get_29 : decode cX11_get 29 = .ok (.bipush 12, 2) := by decide +kernel
theorem dX11_get_31 : decode cX11_get 31 = .ok (.iload_n 1, 1) := by decide +kernel
theorem dX11_get_32 : decode cX11_get 32 = .ok (.imul, 1) := by decide +kernel
theorem dX11_get_33 : decode cX11_get 33 = .ok (.iload_n 2, 1) := by decide +kernel
theorem dX11_get_34 : decode cX11_get 34 = .ok (.iadd, 1) := by decide +kernel
theorem dX11_get_35 : decode cX11_get 35 = .ok (.laload, 1) := by decide +kernel
theorem dX11_get_36 : decode cX11_get 36 = .ok (.lreturn, 1) := by decide +kernel
theorem dX11_image_0 : decode cX11_image 0 = .ok (.aload_n 0, 1) := by decide +kernel
theorem dX11_image_1 : decode cX11_image 1 = .ok (.getfield 18, 3) := by decide +kernel
theorem dX11_image_4 : decode cX11_image 4 = .ok (.aload_n 0, 1) := by decide +kernel
theorem dX11_image_5 : decode cX11_image 5 = .ok (.getfield 12, 3) := by decide +kernel
theorem dX11_image_8 : decode cX11_image 8 = .ok (.invokevirtual 310, 3) := by decide +kernel
theorem dX11_image_11 : decode cX11_image 11 = .ok (.aload_n 0, 1) := by decide +kernel
theorem dX11_image_12 : decode cX11_image 12 = .ok (.iconst 1, 1) := by decide +kernel
theorem dX11_image_13 : decode cX11_image 13 = .ok (.putfield 21, 3) := by decide +kernel
theorem dX11_image_16 : decode cX11_image 16 = .ok (.aload_n 0, 1) := by decide +kernel
theorem dX11_image_17 : decode cX11_image 17 = .ok (.getfield 12, 3) := by decide +kernel
theorem dX11_image_20 : decode cX11_image 20 = .ok (.getfield 52, 3) := by decide +kernel
theorem dX11_image_23 : decode cX11_image 23 = .ok (.getfield 88, 3) := by decide +kernel
theorem dX11_image_26 : decode cX11_image 26 = .ok (.ireturn, 1) := by decide +kernel
theorem dX11_init_0 : decode cX11_init 0 = .ok (.aload_n 0, 1) := by decide +kernel
theorem dX11_init_1 : decode cX11_init 1 = .ok (.invokespecial 3, 3) := by decide +kernel
theorem dX11_init_4 : decode cX11_init 4 = .ok (.aload_n 0, 1) := by decide +kernel
theorem dX11_init_5 : decode cX11_init 5 = .ok (.new 9, 3) := by decide +kernel
theorem dX11_init_8 : decode cX11_init 8 = .ok (.dup, 1) := by decide +kernel
theorem dX11_init_9 : decode cX11_init 9 = .ok (.invokespecial 11, 3) := by decide +kernel
theorem dX11_init_12 : decode cX11_init 12 = .ok (.putfield 12, 3) := by decide +kernel
theorem dX11_init_15 : decode cX11_init 15 = .ok (.aload_n 0, 1) := by decide +kernel
theorem dX11_init_16 : decode cX11_init 16 = .ok (.new 9, 3) := by decide +kernel
theorem dX11_init_19 : decode cX11_init 19 = .ok (.dup, 1) := by decide +kernel
theorem dX11_init_20 : decode cX11_init 20 = .ok (.invokespecial 11, 3) := by decide +kernel
theorem dX11_init_23 : decode cX11_init 23 = .ok (.putfield 18, 3) := by decide +kernel
theorem dX11_init_26 : decode cX11_init 26 = .ok (.aload_n 0, 1) := by decide +kernel
theorem dX11_init_27 : decode cX11_init 27 = .ok (.iconst 0, 1) := by decide +kernel
theorem dX11_init_28 : decode cX11_init 28 = .ok (.putfield 21, 3) := by decide +kernel
theorem dX11_init_31 : decode cX11_init 31 = .ok (.aload_n 0, 1) := by decide +kernel
theorem dX11_init_32 : decode cX11_init 32 = .ok (.new 25, 3) := by decide +kernel
theorem dX11_init_35 : decode cX11_init 35 = .ok (.dup, 1) := by decide +kernel
theorem dX11_init_36 : decode cX11_init 36 = .ok (.aload_n 0, 1) := by decide +kernel
theorem dX11_init_37 : decode cX11_init 37 = .ok (.getfield 12, 3) := by decide +kernel
theorem dX11_init_40 : decode cX11_init 40 = .ok (.invokespecial 27, 3) := by decide +kernel
theorem dX11_init_43 : decode cX11_init 43 = .ok (.putfield 30, 3) := by decide +kernel
theorem dX11_init_46 : decode cX11_init 46 = .ok (.aload_n 0, 1) := by decide +kernel
theorem dX11_init_47 : decode cX11_init 47 = .ok (.new 34, 3) := by decide +kernel
theorem dX11_init_50 : decode cX11_init 50 = .ok (.dup, 1) := by decide +kernel
theorem dX11_init_51 : decode cX11_init 51 = .ok (.aload_n 0, 1) := by decide +kernel
theorem dX11_init_52 : decode cX11_init 52 = .ok (.getfield 12, 3) := by decide +kernel
theorem dX11_init_55 : decode cX11_init 55 = .ok (.aload_n 0, 1) := by decide +kernel
theorem dX11_init_56 : decode cX11_init 56 = .ok (.getfield 30, 3) := by decide +kernel
theorem dX11_init_59 : decode cX11_init 59 = .ok (.invokespecial 36, 3) := by decide +kernel
theorem dX11_init_62 : decode cX11_init 62 = .ok (.putfield 39, 3) := by decide +kernel
theorem dX11_init_65 : decode cX11_init 65 = .ok (.aload_n 0, 1) := by decide +kernel
theorem dX11_init_66 : decode cX11_init 66 = .ok (.new 43, 3) := by decide +kernel
theorem dX11_init_69 : decode cX11_init 69 = .ok (.dup, 1) := by decide +kernel
theorem dX11_init_70 : decode cX11_init 70 = .ok (.aload_n 0, 1) := by decide +kernel
theorem dX11_init_71 : decode cX11_init 71 = .ok (.getfield 12, 3) := by decide +kernel
theorem dX11_init_74 : decode cX11_init 74 = .ok (.aload_n 0, 1) := by decide +kernel
theorem dX11_init_75 : decode cX11_init 75 = .ok (.getfield 30, 3) := by decide +kernel
theorem dX11_init_78 : decode cX11_init 78 = .ok (.invokespecial 45, 3) := by decide +kernel
theorem dX11_init_81 : decode cX11_init 81 = .ok (.putfield 46, 3) := by decide +kernel
theorem dX11_init_84 : decode cX11_init 84 = .ok (.aload_n 0, 1) := by decide +kernel
theorem dX11_init_85 : decode cX11_init 85 = .ok (.new 50, 3) := by decide +kernel
theorem dX11_init_88 : decode cX11_init 88 = .ok (.dup, 1) := by decide +kernel
theorem dX11_init_89 : decode cX11_init 89 = .ok (.aload_n 0, 1) := by decide +kernel
theorem dX11_init_90 : decode cX11_init 90 = .ok (.getfield 12, 3) := by decide +kernel
theorem dX11_init_93 : decode cX11_init 93 = .ok (.getfield 52, 3) := by decide +kernel
theorem dX11_init_96 : decode cX11_init 96 = .ok (.invokespecial 56, 3) := by decide +kernel
theorem dX11_init_99 : decode cX11_init 99 = .ok (.putfield 59, 3) := by decide +kernel
theorem dX11_init_102 : decode cX11_init 102 = .ok (.aload_n 0, 1) := by decide +kernel
theorem dX11_init_103 : decode cX11_init 103 = .ok (.new 63, 3) := by decide +kernel
theorem dX11_init_106 : decode cX11_init 106 = .ok (.dup, 1) := by decide +kernel
theorem dX11_init_107 : decode cX11_init 107 = .ok (.aload_n 0, 1) := by decide +kernel
theorem dX11_init_108 : decode cX11_init 108 = .ok (.getfield 12, 3) := by decide +kernel
theorem dX11_init_111 : decode cX11_init 111 = .ok (.getfield 52, 3) := by decide +kernel
theorem dX11_init_114 : decode cX11_init 114 = .ok (.invokespecial 65, 3) := by decide +kernel
theorem dX11_init_117 : decode cX11_init 117 = .ok (.putfield 66, 3) := by decide +kernel
theorem dX11_init_120 : decode cX11_init 120 = .ok (.aload_n 0, 1) := by decide +kernel
theorem dX11_init_121 : decode cX11_init 121 = .ok (.iconst 3, 1) := by decide +kernel
theorem dX11_init_122 : decode cX11_init 122 = .ok (.newarray .int, 2) := by decide +kernel
theorem dX11_init_124 : decode cX11_init 124 = .ok (.putfield 70, 3) := by decide +kernel
theorem dX11_init_127 : decode cX11_init 127 = .ok (.aload_n 0, 1) := by decide +kernel
theorem dX11_init_128 : decode cX11_init 128 = .ok (.bipush 36, 2) := by decide +kernel
theorem dX11_init_130 : decode cX11_init 130 = .ok (.newarray .long, 2) := by decide +kernel
theorem dX11_init_132 : decode cX11_init 132 = .ok (.putfield 74, 3) := by decide +kernel
theorem dX11_init_135 : decode cX11_init 135 = .ok (.aload_n 0, 1) := by decide +kernel
theorem dX11_init_136 : decode cX11_init 136 = .ok (.new 78, 3) := by decide +kernel
theorem dX11_init_139 : decode cX11_init 139 = .ok (.dup, 1) := by decide +kernel
theorem dX11_init_140 : decode cX11_init 140 = .ok (.invokespecial 80, 3) := by decide +kernel
theorem dX11_init_143 : decode cX11_init 143 = .ok (.putfield 81, 3) := by decide +kernel
theorem dX11_init_146 : decode cX11_init 146 = .ok (.aload_n 0, 1) := by decide +kernel
theorem dX11_init_147 : decode cX11_init 147 = .ok (.new 78, 3) := by decide +kernel
theorem dX11_init_150 : decode cX11_init 150 = .ok (.dup, 1) := by decide +kernel
theorem dX11_init_151 : decode cX11_init 151 = .ok (.invokespecial 80, 3) := by decide +kernel
theorem dX11_init_154 : decode cX11_init 154 = .ok (.putfield 85, 3) := by decide +kernel
theorem dX11_init_157 : decode cX11_init 157 = .ok (.iconst 0, 1) := by decide +kernel
theorem dX11_init_158 : decode cX11_init 158 = .ok (.istore_n 1, 1) := by decide +kernel
theorem dX11_init_159 : decode cX11_init 159 = .ok (.iload_n 1, 1) := by decide +kernel
theorem dX11_init_160 : decode cX11_init 160 = .ok (.iconst 3, 1) := by decide +kernel
theorem dX11_init_161 : decode cX11_init 161 = .ok (.if_icmp .ge 16, 3) := by decide +kernel
theorem dX11_init_164 : decode cX11_init 164 = .ok (.aload_n 0, 1) := by decide +kernel
theorem dX11_init_165 : decode cX11_init 165 = .ok (.getfield 70, 3) := by decide +kernel
theorem dX11_init_168 : decode cX11_init 168 = .ok (.iload_n 1, 1) := by decide +kernel
theorem dX11_init_169 : decode cX11_init 169 = .ok (.iconst (-1), 1) := by decide +kernel
theorem dX11_init_170 : decode cX11_init 170 = .ok (.iastore, 1) := by decide +kernel
theorem dX11_init_171 : decode cX11_init 171 = .ok (.iinc 1 1, 3) := by decide +kernel
theorem dX11_init_174 : decode cX11_init 174 = .ok (.goto (-15), 3) := by decide +kernel
theorem dX11_init_177 : decode cX11_init 177 = .ok (.return_, 1) := by decide +kernel
theorem dX11_isAtom_0 : decode cX11_isAtom 0 = .ok (.iload_n 1, 1) := by decide +kernel
theorem dX11_isAtom_1 : decode cX11_isAtom 1 = .ok (.ifCond .lt 21, 3) := by decide +kernel
theorem dX11_isAtom_4 : decode cX11_isAtom 4 = .ok (.iload_n 1, 1) := by decide +kernel
theorem dX11_isAtom_5 : decode cX11_isAtom 5 = .ok (.aload_n 0, 1) := by decide +kernel
theorem dX11_isAtom_6 : decode cX11_isAtom 6 = .ok (.getfield 12, 3) := by decide +kernel
theorem dX11_isAtom_9 : decode cX11_isAtom 9 = .ok (.getfield 52, 3) := by decide +kernel
theorem dX11_isAtom_12 : decode cX11_isAtom 12 = .ok (.getfield 88, 3) := by decide +kernel
theorem dX11_isAtom_15 : decode cX11_isAtom 15 = .ok (.if_icmp .ge 7, 3) := by decide +kernel
theorem dX11_isAtom_18 : decode cX11_isAtom 18 = .ok (.iconst 1, 1) := by decide +kernel
theorem dX11_isAtom_19 : decode cX11_isAtom 19 = .ok (.goto 4, 3) := by decide +kernel
theorem dX11_isAtom_22 : decode cX11_isAtom 22 = .ok (.iconst 0, 1) := by decide +kernel
theorem dX11_isAtom_23 : decode cX11_isAtom 23 = .ok (.ireturn, 1) := by decide +kernel
theorem dX11_isAtomButZero_0 : decode cX11_isAtomButZero 0 = .ok (.iload_n 1, 1) := by decide +kernel
theorem dX11_isAtomButZero_1 : decode cX11_isAtomButZero 1 = .ok (.iconst 1, 1) := by decide +kernel
theorem dX11_isAtomButZero_2 : decode cX11_isAtomButZero 2 = .ok (.if_icmp .lt 21, 3) := by decide +kernel
theorem dX11_isAtomButZero_5 : decode cX11_isAtomButZero 5 = .ok (.iload_n 1, 1) := by decide +kernel
theorem dX11_isAtomButZero_6 : decode cX11_isAtomButZero 6 = .ok (.aload_n 0, 1) := by decide +kernel
theorem dX11_isAtomButZero_7 : decode cX11_isAtomButZero 7 = .ok (.getfield 12, 3) := by decide +kernel
theorem dX11_isAtomButZero_10 : decode cX11_isAtomButZero 10 = .ok (.getfield 52, 3) := by decide +kernel
theorem dX11_isAtomButZero_13 : decode cX11_isAtomButZero 13 = .ok (.getfield 88, 3) := by decide +kernel
theorem dX11_isAtomButZero_16 : decode cX11_isAtomButZero 16 = .ok (.if_icmp .ge 7, 3) := by decide +kernel
theorem dX11_isAtomButZero_19 : decode cX11_isAtomButZero 19 = .ok (.iconst 1, 1) := by decide +kernel
theorem dX11_isAtomButZero_20 : decode cX11_isAtomButZero 20 = .ok (.goto 4, 3) := by decide +kernel
theorem dX11_isAtomButZero_23 : decode cX11_isAtomButZero 23 = .ok (.iconst 0, 1) := by decide +kernel
theorem dX11_isAtomButZero_24 : decode cX11_isAtomButZero 24 = .ok (.ireturn, 1) := by decide +kernel
theorem dX11_isIn_0 : decode cX11_isIn 0 = .ok (.aload_n 0, 1) := by decide +kernel
theorem dX11_isIn_1 : decode cX11_isIn 1 = .ok (.iload_n 1, 1) := by decide +kernel
theorem dX11_isIn_2 : decode cX11_isIn 2 = .ok (.invokevirtual 120, 3) := by decide +kernel
theorem dX11_isIn_5 : decode cX11_isIn 5 = .ok (.ifCond .eq 19, 3) := by decide +kernel
theorem dX11_isIn_8 : decode cX11_isIn 8 = .ok (.aload_n 0, 1) := by decide +kernel
theorem dX11_isIn_9 : decode cX11_isIn 9 = .ok (.iload_n 2, 1) := by decide +kernel
theorem dX11_isIn_10 : decode cX11_isIn 10 = .ok (.invokevirtual 120, 3) := by decide +kernel
theorem dX11_isIn_13 : decode cX11_isIn 13 = .ok (.ifCond .eq 11, 3) := by decide +kernel
theorem dX11_isIn_16 : decode cX11_isIn 16 = .ok (.aload_n 0, 1) := by decide +kernel
theorem dX11_isIn_17 : decode cX11_isIn 17 = .ok (.iload_n 3, 1) := by decide +kernel
theorem dX11_isIn_18 : decode cX11_isIn 18 = .ok (.invokevirtual 120, 3) := by decide +kernel
theorem dX11_isIn_21 : decode cX11_isIn 21 = .ok (.ifCond .ne 5, 3) := by decide +kernel
theorem dX11_isIn_24 : decode cX11_isIn 24 = .ok (.iconst (-1), 1) := by decide +kernel
theorem dX11_isIn_25 : decode cX11_isIn 25 = .ok (.ireturn, 1) := by decide +kernel
theorem dX11_isIn_26 : decode cX11_isIn 26 = .ok (.aload_n 0, 1) := by decide +kernel
theorem dX11_isIn_27 : decode cX11_isIn 27 = .ok (.getfield 12, 3) := by decide +kernel
theorem dX11_isIn_30 : decode cX11_isIn 30 = .ok (.getfield 52, 3) := by decide +kernel
theorem dX11_isIn_33 : decode cX11_isIn 33 = .ok (.iload_n 1, 1) := by decide +kernel
theorem dX11_isIn_34 : decode cX11_isIn 34 = .ok (.iload_n 2, 1) := by decide +kernel
theorem dX11_isIn_35 : decode cX11_isIn 35 = .ok (.iload_n 3, 1) := by decide +kernel
theorem dX11_isIn_36 : decode cX11_isIn 36 = .ok (.invokevirtual 127, 3) := by decide +kernel
theorem dX11_isIn_39 : decode cX11_isIn 39 = .ok (.ifCond .eq 7, 3) := by decide +kernel
theorem dX11_isIn_42 : decode cX11_isIn 42 = .ok (.iconst 1, 1) := by decide +kernel
theorem dX11_isIn_43 : decode cX11_isIn 43 = .ok (.goto 4, 3) := by decide +kernel
theorem dX11_isIn_46 : decode cX11_isIn 46 = .ok (.iconst 0, 1) := by decide +kernel
theorem dX11_isIn_47 : decode cX11_isIn 47 = .ok (.ireturn, 1) := by decide +kernel
theorem dX11_isList_0 : decode cX11_isList 0 = .ok (.iload_n 0, 1) := by decide +kernel
theorem dX11_isList_1 : decode cX11_isList 1 = .ok (.ifCond .lt 12, 3) := by decide +kernel
theorem dX11_isList_4 : decode cX11_isList 4 = .ok (.iload_n 0, 1) := by decide +kernel
theorem dX11_isList_5 : decode cX11_isList 5 = .ok (.iconst 3, 1) := by decide +kernel
theorem dX11_isList_6 : decode cX11_isList 6 = .ok (.if_icmp .ge 7, 3) := by decide +kernel
theorem dX11_isList_9 : decode cX11_isList 9 = .ok (.iconst 1, 1) := by decide +kernel
theorem dX11_isList_10 : decode cX11_isList 10 = .ok (.goto 4, 3) := by decide +kernel
theorem dX11_isList_13 : decode cX11_isList 13 = .ok (.iconst 0, 1) := by decide +kernel
theorem dX11_isList_14 : decode cX11_isList 14 = .ok (.ireturn, 1) := by decide +kernel
theorem dX11_isNet_0 : decode cX11_isNet 0 = .ok (.iload_n 0, 1) := by decide +kernel
theorem dX11_isNet_1 : decode cX11_isNet 1 = .ok (.ifCond .lt 12, 3) := by decide +kernel
theorem dX11_isNet_4 : decode cX11_isNet 4 = .ok (.iload_n 0, 1) := by decide +kernel
theorem dX11_isNet_5 : decode cX11_isNet 5 = .ok (.iconst 3, 1) := by decide +kernel
theorem dX11_isNet_6 : decode cX11_isNet 6 = .ok (.if_icmp .ge 7, 3) := by decide +kernel
theorem dX11_isNet_9 : decode cX11_isNet 9 = .ok (.iconst 1, 1) := by decide +kernel
theorem dX11_isNet_10 : decode cX11_isNet 10 = .ok (.goto 4, 3) := by decide +kernel
theorem dX11_isNet_13 : decode cX11_isNet 13 = .ok (.iconst 0, 1) := by decide +kernel
theorem dX11_isNet_14 : decode cX11_isNet 14 = .ok (.ireturn, 1) := by decide +kernel
theorem dX11_isNode_0 : decode cX11_isNode 0 = .ok (.iload_n 1, 1) := by decide +kernel
theorem dX11_isNode_1 : decode cX11_isNode 1 = .ok (.invokestatic 174, 3) := by decide +kernel
theorem dX11_isNode_4 : decode cX11_isNode 4 = .ok (.ifCond .eq 27, 3) := by decide +kernel
theorem dX11_isNode_7 : decode cX11_isNode 7 = .ok (.iload_n 2, 1) := by decide +kernel
theorem dX11_isNode_8 : decode cX11_isNode 8 = .ok (.ifCond .lt 23, 3) := by decide +kernel
theorem dX11_isNode_11 : decode cX11_isNode 11 = .ok (.iload_n 2, 1) := by decide +kernel
theorem dX11_isNode_12 : decode cX11_isNode 12 = .ok (.aload_n 0, 1) := by decide +kernel
theorem dX11_isNode_13 : decode cX11_isNode 13 = .ok (.getfield 12, 3) := by decide +kernel
theorem dX11_isNode_16 : decode cX11_isNode 16 = .ok (.getfield 177, 3) := by decide +kernel
theorem dX11_isNode_19 : decode cX11_isNode 19 = .ok (.iload_n 1, 1) := by decide +kernel
theorem dX11_isNode_20 : decode cX11_isNode 20 = .ok (.aaload, 1) := by decide +kernel
theorem dX11_isNode_21 : decode cX11_isNode 21 = .ok (.getfield 181, 3) := by decide +kernel
theorem dX11_isNode_24 : decode cX11_isNode 24 = .ok (.if_icmp .ge 7, 3) := by decide +kernel
theorem dX11_isNode_27 : decode cX11_isNode 27 = .ok (.iconst 1, 1) := by decide +kernel
theorem dX11_isNode_28 : decode cX11_isNode 28 = .ok (.goto 4, 3) := by decide +kernel
theorem dX11_isNode_31 : decode cX11_isNode 31 = .ok (.iconst 0, 1) := by decide +kernel
theorem dX11_isNode_32 : decode cX11_isNode 32 = .ok (.ireturn, 1) := by decide +kernel
theorem dX11_isPlayable_0 : decode cX11_isPlayable 0 = .ok (.aload_n 1, 1) := by decide +kernel
theorem dX11_isPlayable_1 : decode cX11_isPlayable 1 = .ok (.aload_n 0, 1) := by decide +kernel
theorem dX11_isPlayable_2 : decode cX11_isPlayable 2 = .ok (.getfield 12, 3) := by decide +kernel
theorem dX11_isPlayable_5 : decode cX11_isPlayable 5 = .ok (.getfield 52, 3) := by decide +kernel
theorem dX11_isPlayable_8 : decode cX11_isPlayable 8 = .ok (.invokevirtual 209, 3) := by decide +kernel
theorem dX11_isPlayable_11 : decode cX11_isPlayable 11 = .ok (.bipush (-5), 2) := by decide +kernel
theorem dX11_isPlayable_13 : decode cX11_isPlayable 13 = .ok (.if_icmp .ne 18, 3) := by decide +kernel
theorem dX11_isPlayable_16 : decode cX11_isPlayable 16 = .ok (.aload_n 0, 1) := by decide +kernel
theorem dX11_isPlayable_17 : decode cX11_isPlayable 17 = .ok (.getfield 30, 3) := by decide +kernel
theorem dX11_isPlayable_20 : decode cX11_isPlayable 20 = .ok (.aload_n 1, 1) := by decide +kernel
theorem dX11_isPlayable_21 : decode cX11_isPlayable 21 = .ok (.invokevirtual 318, 3) := by decide +kernel
theorem dX11_isPlayable_24 : decode cX11_isPlayable 24 = .ok (.ifCond .ne 7, 3) := by decide +kernel
theorem dX11_isPlayable_27 : decode cX11_isPlayable 27 = .ok (.iconst 1, 1) := by decide +kernel
theorem dX11_isPlayable_28 : decode cX11_isPlayable 28 = .ok (.goto 4, 3) := by decide +kernel
theorem dX11_isPlayable_31 : decode cX11_isPlayable 31 = .ok (.iconst 0, 1) := by decide +kernel
theorem dX11_isPlayable_32 : decode cX11_isPlayable 32 = .ok (.ireturn, 1) := by decide +kernel
theorem dX11_isRelation_0 : decode cX11_isRelation 0 = .ok (.iload_n 1, 1) := by decide +kernel
theorem dX11_isRelation_1 : decode cX11_isRelation 1 = .ok (.ifCond .lt 21, 3) := by decide +kernel
theorem dX11_isRelation_4 : decode cX11_isRelation 4 = .ok (.iload_n 1, 1) := by decide +kernel
theorem dX11_isRelation_5 : decode cX11_isRelation 5 = .ok (.aload_n 0, 1) := by decide +kernel
theorem dX11_isRelation_6 : decode cX11_isRelation 6 = .ok (.getfield 12, 3) := by decide +kernel
theorem dX11_isRelation_9 : decode cX11_isRelation 9 = .ok (.getfield 52, 3) := by decide +kernel
theorem dX11_isRelation_12 : decode cX11_isRelation 12 = .ok (.invokevirtual 146, 3) := by decide +kernel
theorem dX11_isRelation_15 : decode cX11_isRelation 15 = .ok (.if_icmp .ge 7, 3) := by decide +kernel
theorem dX11_isRelation_18 : decode cX11_isRelation 18 = .ok (.iconst 1, 1) := by decide +kernel
theorem dX11_isRelation_19 : decode cX11_isRelation 19 = .ok (.goto 4, 3) := by decide +kernel
theorem dX11_isRelation_22 : decode cX11_isRelation 22 = .ok (.iconst 0, 1) := by decide +kernel
theorem dX11_isRelation_23 : decode cX11_isRelation 23 = .ok (.ireturn, 1) := by decide +kernel
theorem dX11_isSide_0 : decode cX11_isSide 0 = .ok (.iload_n 0, 1) := by decide +kernel
theorem dX11_isSide_1 : decode cX11_isSide 1 = .ok (.ifCond .eq 8, 3) := by decide +kernel
theorem dX11_isSide_4 : decode cX11_isSide 4 = .ok (.iload_n 0, 1) := by decide +kernel
theorem dX11_isSide_5 : decode cX11_isSide 5 = .ok (.iconst 1, 1) := by decide +kernel
theorem dX11_isSide_6 : decode cX11_isSide 6 = .ok (.if_icmp .ne 7, 3) := by decide +kernel
theorem dX11_isSide_9 : decode cX11_isSide 9 = .ok (.iconst 1, 1) := by decide +kernel
theorem dX11_isSide_10 : decode cX11_isSide 10 = .ok (.goto 4, 3) := by decide +kernel
theorem dX11_isSide_13 : decode cX11_isSide 13 = .ok (.iconst 0, 1) := by decide +kernel
theorem dX11_isSide_14 : decode cX11_isSide 14 = .ok (.ireturn, 1) := by decide +kernel
theorem dX11_judge_0 : decode cX11_judge 0 = .ok (.iload_n 1, 1) := by decide +kernel
theorem dX11_judge_1 : decode cX11_judge 1 = .ok (.invokestatic 278, 3) := by decide +kernel
theorem dX11_judge_4 : decode cX11_judge 4 = .ok (.ifCond .ne 5, 3) := by decide +kernel
theorem dX11_judge_7 : decode cX11_judge 7 = .ok (.iconst (-1), 1) := by decide +kernel
theorem dX11_judge_8 : decode cX11_judge 8 = .ok (.ireturn, 1) := by decide +kernel
theorem dX11_judge_9 : decode cX11_judge 9 = .ok (.aload_n 0, 1) := by decide +kernel
theorem dX11_judge_10 : decode cX11_judge 10 = .ok (.getfield 70, 3) := by decide +kernel
theorem dX11_judge_13 : decode cX11_judge 13 = .ok (.iload_n 1, 1) := by decide +kernel
theorem dX11_judge_14 : decode cX11_judge 14 = .ok (.iaload, 1) := by decide +kernel
theorem dX11_judge_15 : decode cX11_judge 15 = .ok (.ifCond .ge 6, 3) := by decide +kernel
theorem dX11_judge_18 : decode cX11_judge 18 = .ok (.bipush (-11), 2) := by decide +kernel
theorem dX11_judge_20 : decode cX11_judge 20 = .ok (.ireturn, 1) := by decide +kernel
theorem dX11_judge_21 : decode cX11_judge 21 = .ok (.aload_n 0, 1) := by decide +kernel
theorem dX11_judge_22 : decode cX11_judge 22 = .ok (.getfield 70, 3) := by decide +kernel
theorem dX11_judge_25 : decode cX11_judge 25 = .ok (.iload_n 1, 1) := by decide +kernel
theorem dX11_judge_26 : decode cX11_judge 26 = .ok (.iaload, 1) := by decide +kernel
theorem dX11_judge_27 : decode cX11_judge 27 = .ok (.ifCond .ne 8, 3) := by decide +kernel
theorem dX11_judge_30 : decode cX11_judge 30 = .ok (.bipush (-2), 2) := by decide +kernel
theorem dX11_judge_32 : decode cX11_judge 32 = .ok (.goto 24, 3) := by decide +kernel
theorem dX11_judge_35 : decode cX11_judge 35 = .ok (.aload_n 0, 1) := by decide +kernel
theorem dX11_judge_36 : decode cX11_judge 36 = .ok (.getfield 66, 3) := by decide +kernel
theorem dX11_judge_39 : decode cX11_judge 39 = .ok (.aload_n 0, 1) := by decide +kernel
theorem dX11_judge_40 : decode cX11_judge 40 = .ok (.getfield 74, 3) := by decide +kernel
theorem dX11_judge_43 : decode cX11_judge 43 = .ok (.bipush 12, 2) := by decide +kernel
theorem dX11_judge_45 : decode cX11_judge 45 = .ok (.iload_n 1, 1) := by decide +kernel
theorem dX11_judge_46 : decode cX11_judge 46 = .ok (.imul, 1) := by decide +kernel
theorem dX11_judge_47 : decode cX11_judge 47 = .ok (.aload_n 0, 1) := by decide +kernel
theorem dX11_judge_48 : decode cX11_judge 48 = .ok (.getfield 70, 3) := by decide +kernel
theorem dX11_judge_51 : decode cX11_judge 51 = .ok (.iload_n 1, 1) := by decide +kernel
theorem dX11_judge_52 : decode cX11_judge 52 = .ok (.iaload, 1) := by decide +kernel
theorem dX11_judge_53 : decode cX11_judge 53 = .ok (.invokevirtual 281, 3) := by decide +kernel
theorem dX11_judge_56 : decode cX11_judge 56 = .ok (.ireturn, 1) := by decide +kernel
theorem dX11_killer_0 : decode cX11_killer 0 = .ok (.aload_n 0, 1) := by decide +kernel
theorem dX11_killer_1 : decode cX11_killer 1 = .ok (.iload_n 1, 1) := by decide +kernel
theorem dX11_killer_2 : decode cX11_killer 2 = .ok (.iload_n 2, 1) := by decide +kernel
theorem dX11_killer_3 : decode cX11_killer 3 = .ok (.invokevirtual 235, 3) := by decide +kernel
theorem dX11_killer_6 : decode cX11_killer 6 = .ok (.istore_n 3, 1) := by decide +kernel
theorem dX11_killer_7 : decode cX11_killer 7 = .ok (.iload_n 3, 1) := by decide +kernel
theorem dX11_killer_8 : decode cX11_killer 8 = .ok (.ifCond .eq 5, 3) := by decide +kernel
theorem dX11_killer_11 : decode cX11_killer 11 = .ok (.iload_n 3, 1) := by decide +kernel
theorem dX11_killer_12 : decode cX11_killer 12 = .ok (.ireturn, 1) := by decide +kernel
theorem dX11_killer_13 : decode cX11_killer 13 = .ok (.aload_n 0, 1) := by decide +kernel
theorem dX11_killer_14 : decode cX11_killer 14 = .ok (.getfield 46, 3) := by decide +kernel
theorem dX11_killer_17 : decode cX11_killer 17 = .ok (.aload_n 0, 1) := by decide +kernel
theorem dX11_killer_18 : decode cX11_killer 18 = .ok (.getfield 12, 3) := by decide +kernel
theorem dX11_killer_21 : decode cX11_killer 21 = .ok (.getfield 177, 3) := by decide +kernel
theorem dX11_killer_24 : decode cX11_killer 24 = .ok (.iload_n 1, 1) := by decide +kernel
theorem dX11_killer_25 : decode cX11_killer 25 = .ok (.aaload, 1) := by decide +kernel
theorem dX11_killer_26 : decode cX11_killer 26 = .ok (.iload_n 2, 1) := by decide +kernel
theorem dX11_killer_27 : decode cX11_killer 27 = .ok (.invokevirtual 238, 3) := by decide +kernel
theorem dX11_killer_30 : decode cX11_killer 30 = .ok (.ifCond .eq 8, 3) := by decide +kernel
theorem dX11_killer_33 : decode cX11_killer 33 = .ok (.bipush (-5), 2) := by decide +kernel
theorem dX11_killer_35 : decode cX11_killer 35 = .ok (.goto 11, 3) := by decide +kernel
theorem dX11_killer_38 : decode cX11_killer 38 = .ok (.aload_n 0, 1) := by decide +kernel
theorem dX11_killer_39 : decode cX11_killer 39 = .ok (.getfield 46, 3) := by decide +kernel
theorem dX11_killer_42 : decode cX11_killer 42 = .ok (.iload_n 2, 1) := by decide +kernel
theorem dX11_killer_43 : decode cX11_killer 43 = .ok (.invokevirtual 242, 3) := by decide +kernel
theorem dX11_killer_46 : decode cX11_killer 46 = .ok (.ireturn, 1) := by decide +kernel
theorem dX11_label_0 : decode cX11_label 0 = .ok (.aload_n 0, 1) := by decide +kernel
theorem dX11_label_1 : decode cX11_label 1 = .ok (.iload_n 1, 1) := by decide +kernel
theorem dX11_label_2 : decode cX11_label 2 = .ok (.iload_n 2, 1) := by decide +kernel
theorem dX11_label_3 : decode cX11_label 3 = .ok (.invokevirtual 195, 3) := by decide +kernel
theorem dX11_label_6 : decode cX11_label 6 = .ok (.ifCond .eq 12, 3) := by decide +kernel
theorem dX11_label_9 : decode cX11_label 9 = .ok (.aload_n 0, 1) := by decide +kernel
theorem dX11_label_10 : decode cX11_label 10 = .ok (.iload_n 1, 1) := by decide +kernel
theorem dX11_label_11 : decode cX11_label 11 = .ok (.iload_n 3, 1) := by decide +kernel
theorem dX11_label_12 : decode cX11_label 12 = .ok (.invokevirtual 195, 3) := by decide +kernel
theorem dX11_label_15 : decode cX11_label 15 = .ok (.ifCond .ne 5, 3) := by decide +kernel
theorem dX11_label_18 : decode cX11_label 18 = .ok (.iconst (-1), 1) := by decide +kernel
theorem dX11_label_19 : decode cX11_label 19 = .ok (.ireturn, 1) := by decide +kernel
theorem dX11_label_20 : decode cX11_label 20 = .ok (.aload_n 0, 1) := by decide +kernel
theorem dX11_label_21 : decode cX11_label 21 = .ok (.getfield 12, 3) := by decide +kernel
theorem dX11_label_24 : decode cX11_label 24 = .ok (.getfield 177, 3) := by decide +kernel
theorem dX11_label_27 : decode cX11_label 27 = .ok (.iload_n 1, 1) := by decide +kernel
theorem dX11_label_28 : decode cX11_label 28 = .ok (.aaload, 1) := by decide +kernel
theorem dX11_label_29 : decode cX11_label 29 = .ok (.iload_n 2, 1) := by decide +kernel
theorem dX11_label_30 : decode cX11_label 30 = .ok (.iload_n 3, 1) := by decide +kernel
theorem dX11_label_31 : decode cX11_label 31 = .ok (.invokevirtual 198, 3) := by decide +kernel
theorem dX11_label_34 : decode cX11_label 34 = .ok (.ireturn, 1) := by decide +kernel
theorem dX11_lasts_0 : decode cX11_lasts 0 = .ok (.aload_n 0, 1) := by decide +kernel
theorem dX11_lasts_1 : decode cX11_lasts 1 = .ok (.iload_n 1, 1) := by decide +kernel
theorem dX11_lasts_2 : decode cX11_lasts 2 = .ok (.iconst 0, 1) := by decide +kernel
theorem dX11_lasts_3 : decode cX11_lasts 3 = .ok (.invokevirtual 235, 3) := by decide +kernel
theorem dX11_lasts_6 : decode cX11_lasts 6 = .ok (.istore_n 2, 1) := by decide +kernel
theorem dX11_lasts_7 : decode cX11_lasts 7 = .ok (.iload_n 2, 1) := by decide +kernel
theorem dX11_lasts_8 : decode cX11_lasts 8 = .ok (.ifCond .eq 5, 3) := by decide +kernel
theorem dX11_lasts_11 : decode cX11_lasts 11 = .ok (.iload_n 2, 1) := by decide +kernel
theorem dX11_lasts_12 : decode cX11_lasts 12 = .ok (.ireturn, 1) := by decide +kernel
theorem dX11_lasts_13 : decode cX11_lasts 13 = .ok (.iconst 0, 1) := by decide +kernel
theorem dX11_lasts_14 : decode cX11_lasts 14 = .ok (.istore_n 3, 1) := by decide +kernel
theorem dX11_lasts_15 : decode cX11_lasts 15 = .ok (.iload_n 3, 1) := by decide +kernel
theorem dX11_lasts_16 : decode cX11_lasts 16 = .ok (.iconst 2, 1) := by decide +kernel
theorem dX11_lasts_17 : decode cX11_lasts 17 = .ok (.if_icmp .ge 31, 3) := by decide +kernel
theorem dX11_lasts_20 : decode cX11_lasts 20 = .ok (.aload_n 0, 1) := by decide +kernel
theorem dX11_lasts_21 : decode cX11_lasts 21 = .ok (.getfield 46, 3) := by decide +kernel
theorem dX11_lasts_24 : decode cX11_lasts 24 = .ok (.aload_n 0, 1) := by decide +kernel
theorem dX11_lasts_25 : decode cX11_lasts 25 = .ok (.getfield 12, 3) := by decide +kernel
theorem dX11_lasts_28 : decode cX11_lasts 28 = .ok (.getfield 177, 3) := by decide +kernel
theorem dX11_lasts_31 : decode cX11_lasts 31 = .ok (.iload_n 1, 1) := by decide +kernel
theorem dX11_lasts_32 : decode cX11_lasts 32 = .ok (.aaload, 1) := by decide +kernel
theorem dX11_lasts_33 : decode cX11_lasts 33 = .ok (.iload_n 3, 1) := by decide +kernel
theorem dX11_lasts_34 : decode cX11_lasts 34 = .ok (.iconst 1, 1) := by decide +kernel
theorem dX11_lasts_35 : decode cX11_lasts 35 = .ok (.iadd, 1) := by decide +kernel
theorem dX11_lasts_36 : decode cX11_lasts 36 = .ok (.invokevirtual 238, 3) := by decide +kernel
theorem dX11_lasts_39 : decode cX11_lasts 39 = .ok (.ifCond .eq 9, 3) := by decide +kernel
theorem dX11_lasts_42 : decode cX11_lasts 42 = .ok (.iinc 3 1, 3) := by decide +kernel
theorem dX11_lasts_45 : decode cX11_lasts 45 = .ok (.goto (-30), 3) := by decide +kernel
theorem dX11_lasts_48 : decode cX11_lasts 48 = .ok (.iload_n 3, 1) := by decide +kernel
theorem dX11_lasts_49 : decode cX11_lasts 49 = .ok (.ireturn, 1) := by decide +kernel
theorem dX11_later_0 : decode cX11_later 0 = .ok (.aload_n 0, 1) := by decide +kernel
theorem dX11_later_1 : decode cX11_later 1 = .ok (.getfield 59, 3) := by decide +kernel
theorem dX11_later_4 : decode cX11_later 4 = .ok (.getfield 255, 3) := by decide +kernel
theorem dX11_later_7 : decode cX11_later 7 = .ok (.ifCond .eq 13, 3) := by decide +kernel
theorem dX11_later_10 : decode cX11_later 10 = .ok (.aload_n 0, 1) := by decide +kernel
theorem dX11_later_11 : decode cX11_later 11 = .ok (.getfield 59, 3) := by decide +kernel
theorem dX11_later_14 : decode cX11_later 14 = .ok (.getfield 252, 3) := by decide +kernel
theorem dX11_later_17 : decode cX11_later 17 = .ok (.ifCond .ne 6, 3) := by decide +kernel
theorem dX11_later_20 : decode cX11_later 20 = .ok (.bipush (-3), 2) := by decide +kernel
theorem dX11_later_22 : decode cX11_later 22 = .ok (.ireturn, 1) := by decide +kernel
theorem dX11_later_23 : decode cX11_later 23 = .ok (.aload_n 0, 1) := by decide +kernel
theorem dX11_later_24 : decode cX11_later 24 = .ok (.getfield 59, 3) := by decide +kernel
theorem dX11_later_27 : decode cX11_later 27 = .ok (.invokevirtual 272, 3) := by decide +kernel
theorem dX11_later_30 : decode cX11_later 30 = .ok (.aload_n 0, 1) := by decide +kernel
theorem dX11_later_31 : decode cX11_later 31 = .ok (.getfield 59, 3) := by decide +kernel
theorem dX11_later_34 : decode cX11_later 34 = .ok (.getfield 252, 3) := by decide +kernel
theorem dX11_later_37 : decode cX11_later 37 = .ok (.ireturn, 1) := by decide +kernel
theorem dX11_list_0 : decode cX11_list 0 = .ok (.iload_n 1, 1) := by decide +kernel
theorem dX11_list_1 : decode cX11_list 1 = .ok (.invokestatic 278, 3) := by decide +kernel
theorem dX11_list_4 : decode cX11_list 4 = .ok (.ifCond .ne 5, 3) := by decide +kernel
theorem dX11_list_7 : decode cX11_list 7 = .ok (.iconst (-1), 1) := by decide +kernel
theorem dX11_list_8 : decode cX11_list 8 = .ok (.ireturn, 1) := by decide +kernel
theorem dX11_list_9 : decode cX11_list 9 = .ok (.iload_n 2, 1) := by decide +kernel
theorem dX11_list_10 : decode cX11_list 10 = .ok (.bipush 12, 2) := by decide +kernel
theorem dX11_list_12 : decode cX11_list 12 = .ok (.if_icmp .le 6, 3) := by decide +kernel
theorem dX11_list_15 : decode cX11_list 15 = .ok (.bipush (-2), 2) := by decide +kernel
theorem dX11_list_17 : decode cX11_list 17 = .ok (.ireturn, 1) := by decide +kernel
theorem dX11_list_18 : decode cX11_list 18 = .ok (.iload_n 2, 1) := by decide +kernel
theorem dX11_list_19 : decode cX11_list 19 = .ok (.iconst (-1), 1) := by decide +kernel
theorem dX11_list_20 : decode cX11_list 20 = .ok (.if_icmp .ge 6, 3) := by decide +kernel
theorem dX11_list_23 : decode cX11_list 23 = .ok (.bipush (-14), 2) := by decide +kernel
theorem dX11_list_25 : decode cX11_list 25 = .ok (.ireturn, 1) := by decide +kernel
theorem dX11_list_26 : decode cX11_list 26 = .ok (.aload_n 0, 1) := by decide +kernel
theorem dX11_list_27 : decode cX11_list 27 = .ok (.getfield 70, 3) := by decide +kernel
theorem dX11_list_30 : decode cX11_list 30 = .ok (.iload_n 1, 1) := by decide +kernel
theorem dX11_list_31 : decode cX11_list 31 = .ok (.iload_n 2, 1) := by decide +kernel
theorem dX11_list_32 : decode cX11_list 32 = .ok (.iastore, 1) := by decide +kernel
theorem dX11_list_33 : decode cX11_list 33 = .ok (.iconst 0, 1) := by decide +kernel
theorem dX11_list_34 : decode cX11_list 34 = .ok (.istore_n 3, 1) := by decide +kernel
theorem dX11_list_35 : decode cX11_list 35 = .ok (.iload_n 3, 1) := by decide +kernel
theorem dX11_list_36 : decode cX11_list 36 = .ok (.iload_n 2, 1) := by decide +kernel
theorem dX11_list_37 : decode cX11_list 37 = .ok (.if_icmp .ge 21, 3) := by decide +kernel
theorem dX11_list_40 : decode cX11_list 40 = .ok (.aload_n 0, 1) := by decide +kernel
theorem dX11_list_41 : decode cX11_list 41 = .ok (.getfield 74, 3) := by decide +kernel
theorem dX11_list_44 : decode cX11_list 44 = .ok (.bipush 12, 2) := by decide +kernel
theorem dX11_list_46 : decode cX11_list 46 = .ok (.iload_n 1, 1) := by decide +kernel
theorem dX11_list_47 : decode cX11_list 47 = .ok (.imul, 1) := by decide +kernel
theorem dX11_list_48 : decode cX11_list 48 = .ok (.iload_n 3, 1) := by decide +kernel
theorem dX11_list_49 : decode cX11_list 49 = .ok (.iadd, 1) := by decide +kernel
theorem dX11_list_50 : decode cX11_list 50 = .ok (.lconst 0, 1) := by decide +kernel
theorem dX11_list_51 : decode cX11_list 51 = .ok (.lastore, 1) := by decide +kernel
theorem dX11_list_52 : decode cX11_list 52 = .ok (.iinc 3 1, 3) := by decide +kernel
theorem dX11_list_55 : decode cX11_list 55 = .ok (.goto (-20), 3) := by decide +kernel
theorem dX11_list_58 : decode cX11_list 58 = .ok (.iconst 1, 1) := by decide +kernel
theorem dX11_list_59 : decode cX11_list 59 = .ok (.ireturn, 1) := by decide +kernel
theorem dX11_listsPresent_0 : decode cX11_listsPresent 0 = .ok (.iconst 0, 1) := by decide +kernel
theorem dX11_listsPresent_1 : decode cX11_listsPresent 1 = .ok (.istore_n 1, 1) := by decide +kernel
theorem dX11_listsPresent_2 : decode cX11_listsPresent 2 = .ok (.iconst 0, 1) := by decide +kernel
theorem dX11_listsPresent_3 : decode cX11_listsPresent 3 = .ok (.istore_n 2, 1) := by decide +kernel
theorem dX11_listsPresent_4 : decode cX11_listsPresent 4 = .ok (.iload_n 2, 1) := by decide +kernel
theorem dX11_listsPresent_5 : decode cX11_listsPresent 5 = .ok (.iconst 3, 1) := by decide +kernel
theorem dX11_listsPresent_6 : decode cX11_listsPresent 6 = .ok (.if_icmp .ge 21, 3) := by decide +kernel
theorem dX11_listsPresent_9 : decode cX11_listsPresent 9 = .ok (.aload_n 0, 1) := by decide +kernel
theorem dX11_listsPresent_10 : decode cX11_listsPresent 10 = .ok (.getfield 70, 3) := by decide +kernel
theorem dX11_listsPresent_13 : decode cX11_listsPresent 13 = .ok (.iload_n 2, 1) := by decide +kernel
theorem dX11_listsPresent_14 : decode cX11_listsPresent 14 = .ok (.iaload, 1) := by decide +kernel
theorem dX11_listsPresent_15 : decode cX11_listsPresent 15 = .ok (.ifCond .lt 6, 3) := by decide +kernel
theorem dX11_listsPresent_18 : decode cX11_listsPresent 18 = .ok (.iinc 1 1, 3) := by decide +kernel
theorem dX11_listsPresent_21 : decode cX11_listsPresent 21 = .ok (.iinc 2 1, 3) := by decide +kernel
theorem dX11_listsPresent_24 : decode cX11_listsPresent 24 = .ok (.goto (-20), 3) := by decide +kernel
theorem dX11_listsPresent_27 : decode cX11_listsPresent 27 = .ok (.iload_n 1, 1) := by decide +kernel
theorem dX11_listsPresent_28 : decode cX11_listsPresent 28 = .ok (.ireturn, 1) := by decide +kernel
theorem dX11_node_0 : decode cX11_node 0 = .ok (.iload_n 1, 1) := by decide +kernel
theorem dX11_node_1 : decode cX11_node 1 = .ok (.invokestatic 174, 3) := by decide +kernel
theorem dX11_node_4 : decode cX11_node 4 = .ok (.ifCond .ne 5, 3) := by decide +kernel
theorem dX11_node_7 : decode cX11_node 7 = .ok (.iconst (-1), 1) := by decide +kernel
theorem dX11_node_8 : decode cX11_node 8 = .ok (.ireturn, 1) := by decide +kernel
theorem dX11_node_9 : decode cX11_node 9 = .ok (.aload_n 0, 1) := by decide +kernel
theorem dX11_node_10 : decode cX11_node 10 = .ok (.getfield 12, 3) := by decide +kernel
theorem dX11_node_13 : decode cX11_node 13 = .ok (.getfield 177, 3) := by decide +kernel
theorem dX11_node_16 : decode cX11_node 16 = .ok (.iload_n 1, 1) := by decide +kernel
theorem dX11_node_17 : decode cX11_node 17 = .ok (.aaload, 1) := by decide +kernel
theorem dX11_node_18 : decode cX11_node 18 = .ok (.astore_n 3, 1) := by decide +kernel
theorem dX11_node_19 : decode cX11_node 19 = .ok (.aload_n 3, 1) := by decide +kernel
theorem dX11_node_20 : decode cX11_node 20 = .ok (.getfield 181, 3) := by decide +kernel
theorem dX11_node_23 : decode cX11_node 23 = .ok (.bipush 6, 2) := by decide +kernel
theorem dX11_node_25 : decode cX11_node 25 = .ok (.if_icmp .lt 6, 3) := by decide +kernel
theorem dX11_node_28 : decode cX11_node 28 = .ok (.bipush (-4), 2) := by decide +kernel
theorem dX11_node_30 : decode cX11_node 30 = .ok (.ireturn, 1) := by decide +kernel
theorem dX11_node_31 : decode cX11_node 31 = .ok (.aload_n 0, 1) := by decide +kernel
theorem dX11_node_32 : decode cX11_node 32 = .ok (.getfield 39, 3) := by decide +kernel
theorem dX11_node_35 : decode cX11_node 35 = .ok (.iload_n 2, 1) := by decide +kernel
theorem dX11_node_36 : decode cX11_node 36 = .ok (.aload_n 3, 1) := by decide +kernel
theorem dX11_node_37 : decode cX11_node 37 = .ok (.getfield 181, 3) := by decide +kernel
theorem dX11_node_40 : decode cX11_node 40 = .ok (.invokevirtual 184, 3) := by decide +kernel
theorem dX11_node_43 : decode cX11_node 43 = .ok (.ifCond .ne 6, 3) := by decide +kernel
theorem dX11_node_46 : decode cX11_node 46 = .ok (.bipush (-2), 2) := by decide +kernel
theorem dX11_node_48 : decode cX11_node 48 = .ok (.ireturn, 1) := by decide +kernel
theorem dX11_node_49 : decode cX11_node 49 = .ok (.aload_n 3, 1) := by decide +kernel
theorem dX11_node_50 : decode cX11_node 50 = .ok (.aload_n 0, 1) := by decide +kernel
theorem dX11_node_51 : decode cX11_node 51 = .ok (.getfield 39, 3) := by decide +kernel
theorem dX11_node_54 : decode cX11_node 54 = .ok (.getfield 188, 3) := by decide +kernel
theorem dX11_node_57 : decode cX11_node 57 = .ok (.aload_n 0, 1) := by decide +kernel
theorem dX11_node_58 : decode cX11_node 58 = .ok (.getfield 12, 3) := by decide +kernel
theorem dX11_node_61 : decode cX11_node 61 = .ok (.getfield 52, 3) := by decide +kernel
theorem dX11_node_64 : decode cX11_node 64 = .ok (.invokevirtual 191, 3) := by decide +kernel
theorem dX11_node_67 : decode cX11_node 67 = .ok (.aload_n 3, 1) := by decide +kernel
theorem dX11_node_68 : decode cX11_node 68 = .ok (.getfield 181, 3) := by decide +kernel
theorem dX11_node_71 : decode cX11_node 71 = .ok (.iconst 1, 1) := by decide +kernel
theorem dX11_node_72 : decode cX11_node 72 = .ok (.isub, 1) := by decide +kernel
theorem dX11_node_73 : decode cX11_node 73 = .ok (.ireturn, 1) := by decide +kernel
theorem dX11_occurs_0 : decode cX11_occurs 0 = .ok (.iload_n 1, 1) := by decide +kernel
theorem dX11_occurs_1 : decode cX11_occurs 1 = .ok (.invokestatic 174, 3) := by decide +kernel
theorem dX11_occurs_4 : decode cX11_occurs 4 = .ok (.ifCond .eq 15, 3) := by decide +kernel
theorem dX11_occurs_7 : decode cX11_occurs 7 = .ok (.iload_n 2, 1) := by decide +kernel
theorem dX11_occurs_8 : decode cX11_occurs 8 = .ok (.invokestatic 174, 3) := by decide +kernel
theorem dX11_occurs_11 : decode cX11_occurs 11 = .ok (.ifCond .eq 8, 3) := by decide +kernel
theorem dX11_occurs_14 : decode cX11_occurs 14 = .ok (.iload_n 3, 1) := by decide +kernel
theorem dX11_occurs_15 : decode cX11_occurs 15 = .ok (.iconst (-1), 1) := by decide +kernel
theorem dX11_occurs_16 : decode cX11_occurs 16 = .ok (.if_icmp .ge 5, 3) := by decide +kernel
theorem dX11_occurs_19 : decode cX11_occurs 19 = .ok (.iconst (-1), 1) := by decide +kernel
theorem dX11_occurs_20 : decode cX11_occurs 20 = .ok (.ireturn, 1) := by decide +kernel
theorem dX11_occurs_21 : decode cX11_occurs 21 = .ok (.aload_n 0, 1) := by decide +kernel
theorem dX11_occurs_22 : decode cX11_occurs 22 = .ok (.getfield 30, 3) := by decide +kernel
theorem dX11_occurs_25 : decode cX11_occurs 25 = .ok (.aload_n 0, 1) := by decide +kernel
theorem dX11_occurs_26 : decode cX11_occurs 26 = .ok (.getfield 12, 3) := by decide +kernel
theorem dX11_occurs_29 : decode cX11_occurs 29 = .ok (.getfield 177, 3) := by decide +kernel
theorem dX11_occurs_32 : decode cX11_occurs 32 = .ok (.iload_n 1, 1) := by decide +kernel
theorem dX11_occurs_33 : decode cX11_occurs 33 = .ok (.aaload, 1) := by decide +kernel
theorem dX11_occurs_34 : decode cX11_occurs 34 = .ok (.aload_n 0, 1) := by decide +kernel
theorem dX11_occurs_35 : decode cX11_occurs 35 = .ok (.getfield 12, 3) := by decide +kernel
theorem dX11_occurs_38 : decode cX11_occurs 38 = .ok (.getfield 177, 3) := by decide +kernel
theorem dX11_occurs_41 : decode cX11_occurs 41 = .ok (.iload_n 2, 1) := by decide +kernel
theorem dX11_occurs_42 : decode cX11_occurs 42 = .ok (.aaload, 1) := by decide +kernel
theorem dX11_occurs_43 : decode cX11_occurs 43 = .ok (.iload_n 3, 1) := by decide +kernel
theorem dX11_occurs_44 : decode cX11_occurs 44 = .ok (.invokevirtual 225, 3) := by decide +kernel
theorem dX11_occurs_47 : decode cX11_occurs 47 = .ok (.ireturn, 1) := by decide +kernel
theorem dX11_over_0 : decode cX11_over 0 = .ok (.aload_n 0, 1) := by decide +kernel
theorem dX11_over_1 : decode cX11_over 1 = .ok (.iload_n 1, 1) := by decide +kernel
theorem dX11_over_2 : decode cX11_over 2 = .ok (.invokevirtual 113, 3) := by decide +kernel
theorem dX11_over_5 : decode cX11_over 5 = .ok (.ifCond .eq 18, 3) := by decide +kernel
theorem dX11_over_8 : decode cX11_over 8 = .ok (.aload_n 0, 1) := by decide +kernel
theorem dX11_over_9 : decode cX11_over 9 = .ok (.iload_n 2, 1) := by decide +kernel
theorem dX11_over_10 : decode cX11_over 10 = .ok (.invokevirtual 113, 3) := by decide +kernel
theorem dX11_over_13 : decode cX11_over 13 = .ok (.ifCond .eq 10, 3) := by decide +kernel
theorem dX11_over_16 : decode cX11_over 16 = .ok (.iload_n 3, 1) := by decide +kernel
theorem dX11_over_17 : decode cX11_over 17 = .ok (.invokestatic 135, 3) := by decide +kernel
theorem dX11_over_20 : decode cX11_over 20 = .ok (.ifCond .ne 6, 3) := by decide +kernel
theorem dX11_over_23 : decode cX11_over 23 = .ok (.bipush (-2), 2) := by decide +kernel
theorem dX11_over_25 : decode cX11_over 25 = .ok (.ireturn, 1) := by decide +kernel
theorem dX11_over_26 : decode cX11_over 26 = .ok (.aload_n 0, 1) := by decide +kernel
theorem dX11_over_27 : decode cX11_over 27 = .ok (.getfield 12, 3) := by decide +kernel
theorem dX11_over_30 : decode cX11_over 30 = .ok (.getfield 52, 3) := by decide +kernel
theorem dX11_over_33 : decode cX11_over 33 = .ok (.iload_n 1, 1) := by decide +kernel
theorem dX11_over_34 : decode cX11_over 34 = .ok (.iload_n 2, 1) := by decide +kernel
theorem dX11_over_35 : decode cX11_over 35 = .ok (.iload_n 3, 1) := by decide +kernel
theorem dX11_over_36 : decode cX11_over 36 = .ok (.invokevirtual 138, 3) := by decide +kernel
theorem dX11_over_39 : decode cX11_over 39 = .ok (.ireturn, 1) := by decide +kernel
theorem dX11_pair_0 : decode cX11_pair 0 = .ok (.aload_n 0, 1) := by decide +kernel
theorem dX11_pair_1 : decode cX11_pair 1 = .ok (.iload_n 1, 1) := by decide +kernel
theorem dX11_pair_2 : decode cX11_pair 2 = .ok (.invokevirtual 101, 3) := by decide +kernel
theorem dX11_pair_5 : decode cX11_pair 5 = .ok (.ifCond .eq 11, 3) := by decide +kernel
theorem dX11_pair_8 : decode cX11_pair 8 = .ok (.aload_n 0, 1) := by decide +kernel
theorem dX11_pair_9 : decode cX11_pair 9 = .ok (.iload_n 2, 1) := by decide +kernel
theorem dX11_pair_10 : decode cX11_pair 10 = .ok (.invokevirtual 101, 3) := by decide +kernel
theorem dX11_pair_13 : decode cX11_pair 13 = .ok (.ifCond .ne 5, 3) := by decide +kernel
theorem dX11_pair_16 : decode cX11_pair 16 = .ok (.iconst (-1), 1) := by decide +kernel
theorem dX11_pair_17 : decode cX11_pair 17 = .ok (.ireturn, 1) := by decide +kernel
theorem dX11_pair_18 : decode cX11_pair 18 = .ok (.aload_n 0, 1) := by decide +kernel
theorem dX11_pair_19 : decode cX11_pair 19 = .ok (.getfield 12, 3) := by decide +kernel
theorem dX11_pair_22 : decode cX11_pair 22 = .ok (.getfield 52, 3) := by decide +kernel
theorem dX11_pair_25 : decode cX11_pair 25 = .ok (.iload_n 1, 1) := by decide +kernel
theorem dX11_pair_26 : decode cX11_pair 26 = .ok (.iload_n 2, 1) := by decide +kernel
theorem dX11_pair_27 : decode cX11_pair 27 = .ok (.invokevirtual 105, 3) := by decide +kernel
theorem dX11_pair_30 : decode cX11_pair 30 = .ok (.aload_n 0, 1) := by decide +kernel
theorem dX11_pair_31 : decode cX11_pair 31 = .ok (.invokevirtual 98, 3) := by decide +kernel
theorem dX11_pair_34 : decode cX11_pair 34 = .ok (.aload_n 0, 1) := by decide +kernel
theorem dX11_pair_35 : decode cX11_pair 35 = .ok (.getfield 12, 3) := by decide +kernel
theorem dX11_pair_38 : decode cX11_pair 38 = .ok (.getfield 52, 3) := by decide +kernel
theorem dX11_pair_41 : decode cX11_pair 41 = .ok (.invokevirtual 109, 3) := by decide +kernel
theorem dX11_pair_44 : decode cX11_pair 44 = .ok (.ireturn, 1) := by decide +kernel
theorem dX11_perform_0 : decode cX11_perform 0 = .ok (.iconst 0, 1) := by decide +kernel
theorem dX11_perform_1 : decode cX11_perform 1 = .ok (.istore_n 1, 1) := by decide +kernel
theorem dX11_perform_2 : decode cX11_perform 2 = .ok (.iconst 0, 1) := by decide +kernel
theorem dX11_perform_3 : decode cX11_perform 3 = .ok (.istore_n 2, 1) := by decide +kernel
theorem dX11_perform_4 : decode cX11_perform 4 = .ok (.iconst 0, 1) := by decide +kernel
theorem dX11_perform_5 : decode cX11_perform 5 = .ok (.istore_n 3, 1) := by decide +kernel
theorem dX11_perform_6 : decode cX11_perform 6 = .ok (.iload_n 3, 1) := by decide +kernel
theorem dX11_perform_7 : decode cX11_perform 7 = .ok (.bipush 100, 2) := by decide +kernel
theorem dX11_perform_9 : decode cX11_perform 9 = .ok (.if_icmp .ge 79, 3) := by decide +kernel
theorem dX11_perform_12 : decode cX11_perform 12 = .ok (.iload_n 1, 1) := by decide +kernel
theorem dX11_perform_13 : decode cX11_perform 13 = .ok (.aload_n 0, 1) := by decide +kernel
theorem dX11_perform_14 : decode cX11_perform 14 = .ok (.getfield 81, 3) := by decide +kernel
theorem dX11_perform_17 : decode cX11_perform 17 = .ok (.getfield 293, 3) := by decide +kernel
theorem dX11_perform_20 : decode cX11_perform 20 = .ok (.if_icmp .ge 68, 3) := by decide +kernel
theorem dX11_perform_23 : decode cX11_perform 23 = .ok (.aload_n 0, 1) := by decide +kernel
theorem dX11_perform_24 : decode cX11_perform 24 = .ok (.getfield 81, 3) := by decide +kernel
theorem dX11_perform_27 : decode cX11_perform 27 = .ok (.iload_n 1, 1) := by decide +kernel
theorem dX11_perform_28 : decode cX11_perform 28 = .ok (.invokevirtual 321, 3) := by decide +kernel
theorem dX11_perform_31 : decode cX11_perform 31 = .ok (.istore 4, 2) := by decide +kernel
theorem dX11_perform_33 : decode cX11_perform 33 = .ok (.aload_n 0, 1) := by decide +kernel
theorem dX11_perform_34 : decode cX11_perform 34 = .ok (.getfield 81, 3) := by decide +kernel
theorem dX11_perform_37 : decode cX11_perform 37 = .ok (.iload_n 1, 1) := by decide +kernel
theorem dX11_perform_38 : decode cX11_perform 38 = .ok (.iload 4, 2) := by decide +kernel
theorem dX11_perform_40 : decode cX11_perform 40 = .ok (.invokevirtual 324, 3) := by decide +kernel
theorem dX11_perform_43 : decode cX11_perform 43 = .ok (.istore 5, 2) := by decide +kernel
theorem dX11_perform_45 : decode cX11_perform 45 = .ok (.aload_n 0, 1) := by decide +kernel
theorem dX11_perform_46 : decode cX11_perform 46 = .ok (.iload 5, 2) := by decide +kernel
theorem dX11_perform_48 : decode cX11_perform 48 = .ok (.iload 4, 2) := by decide +kernel
theorem dX11_perform_50 : decode cX11_perform 50 = .ok (.invokevirtual 327, 3) := by decide +kernel
theorem dX11_perform_53 : decode cX11_perform 53 = .ok (.ifCond .ge 9, 3) := by decide +kernel
theorem dX11_perform_56 : decode cX11_perform 56 = .ok (.sipush (-300), 3) := by decide +kernel
theorem dX11_perform_59 : decode cX11_perform 59 = .ok (.iload_n 2, 1) := by decide +kernel
theorem dX11_perform_60 : decode cX11_perform 60 = .ok (.isub, 1) := by decide +kernel
theorem dX11_perform_61 : decode cX11_perform 61 = .ok (.ireturn, 1) := by decide +kernel
theorem dX11_perform_62 : decode cX11_perform 62 = .ok (.iinc 2 1, 3) := by decide +kernel
theorem dX11_perform_65 : decode cX11_perform 65 = .ok (.iload 4, 2) := by decide +kernel
theorem dX11_perform_67 : decode cX11_perform 67 = .ok (.iconst 2, 1) := by decide +kernel
theorem dX11_perform_68 : decode cX11_perform 68 = .ok (.aload_n 0, 1) := by decide +kernel
theorem dX11_perform_69 : decode cX11_perform 69 = .ok (.getfield 81, 3) := by decide +kernel
theorem dX11_perform_72 : decode cX11_perform 72 = .ok (.iload 5, 2) := by decide +kernel
theorem dX11_perform_74 : decode cX11_perform 74 = .ok (.invokevirtual 330, 3) := by decide +kernel
theorem dX11_perform_77 : decode cX11_perform 77 = .ok (.imul, 1) := by decide +kernel
theorem dX11_perform_78 : decode cX11_perform 78 = .ok (.iadd, 1) := by decide +kernel
theorem dX11_perform_79 : decode cX11_perform 79 = .ok (.iconst 1, 1) := by decide +kernel
theorem dX11_perform_80 : decode cX11_perform 80 = .ok (.iadd, 1) := by decide +kernel
theorem dX11_perform_81 : decode cX11_perform 81 = .ok (.istore_n 1, 1) := by decide +kernel
theorem dX11_perform_82 : decode cX11_perform 82 = .ok (.iinc 3 1, 3) := by decide +kernel
theorem dX11_perform_85 : decode cX11_perform 85 = .ok (.goto (-79), 3) := by decide +kernel
theorem dX11_perform_88 : decode cX11_perform 88 = .ok (.iload_n 2, 1) := by decide +kernel
theorem dX11_perform_89 : decode cX11_perform 89 = .ok (.ireturn, 1) := by decide +kernel
theorem dX11_power_0 : decode cX11_power 0 = .ok (.aload_n 0, 1) := by decide +kernel
theorem dX11_power_1 : decode cX11_power 1 = .ok (.iload_n 1, 1) := by decide +kernel
theorem dX11_power_2 : decode cX11_power 2 = .ok (.invokevirtual 113, 3) := by decide +kernel
theorem dX11_power_5 : decode cX11_power 5 = .ok (.ifCond .ne 6, 3) := by decide +kernel
theorem dX11_power_8 : decode cX11_power 8 = .ok (.bipush (-2), 2) := by decide +kernel
theorem dX11_power_10 : decode cX11_power 10 = .ok (.ireturn, 1) := by decide +kernel
theorem dX11_power_11 : decode cX11_power 11 = .ok (.iload_n 2, 1) := by decide +kernel
theorem dX11_power_12 : decode cX11_power 12 = .ok (.ifCond .eq 10, 3) := by decide +kernel
theorem dX11_power_15 : decode cX11_power 15 = .ok (.iload_n 2, 1) := by decide +kernel
theorem dX11_power_16 : decode cX11_power 16 = .ok (.iconst 1, 1) := by decide +kernel
theorem dX11_power_17 : decode cX11_power 17 = .ok (.if_icmp .eq 5, 3) := by decide +kernel
theorem dX11_power_20 : decode cX11_power 20 = .ok (.iconst (-1), 1) := by decide +kernel
theorem dX11_power_21 : decode cX11_power 21 = .ok (.ireturn, 1) := by decide +kernel
theorem dX11_power_22 : decode cX11_power 22 = .ok (.aload_n 0, 1) := by decide +kernel
theorem dX11_power_23 : decode cX11_power 23 = .ok (.getfield 12, 3) := by decide +kernel
theorem dX11_power_26 : decode cX11_power 26 = .ok (.getfield 52, 3) := by decide +kernel
theorem dX11_power_29 : decode cX11_power 29 = .ok (.iload_n 1, 1) := by decide +kernel
theorem dX11_power_30 : decode cX11_power 30 = .ok (.iload_n 2, 1) := by decide +kernel
theorem dX11_power_31 : decode cX11_power 31 = .ok (.ifCond .ne 7, 3) := by decide +kernel
theorem dX11_power_34 : decode cX11_power 34 = .ok (.iconst 1, 1) := by decide +kernel
theorem dX11_power_35 : decode cX11_power 35 = .ok (.goto 4, 3) := by decide +kernel
theorem dX11_power_38 : decode cX11_power 38 = .ok (.iconst 0, 1) := by decide +kernel
theorem dX11_power_39 : decode cX11_power 39 = .ok (.invokevirtual 142, 3) := by decide +kernel
theorem dX11_power_42 : decode cX11_power 42 = .ok (.ireturn, 1) := by decide +kernel
theorem dX11_put_0 : decode cX11_put 0 = .ok (.iload_n 1, 1) := by decide +kernel
theorem dX11_put_1 : decode cX11_put 1 = .ok (.invokestatic 278, 3) := by decide +kernel
theorem dX11_put_4 : decode cX11_put 4 = .ok (.ifCond .ne 5, 3) := by decide +kernel
theorem dX11_put_7 : decode cX11_put 7 = .ok (.iconst (-1), 1) := by decide +kernel
theorem dX11_put_8 : decode cX11_put 8 = .ok (.ireturn, 1) := by decide +kernel
theorem dX11_put_9 : decode cX11_put 9 = .ok (.aload_n 0, 1) := by decide +kernel
theorem dX11_put_10 : decode cX11_put 10 = .ok (.getfield 70, 3) := by decide +kernel
theorem dX11_put_13 : decode cX11_put 13 = .ok (.iload_n 1, 1) := by decide +kernel
theorem dX11_put_14 : decode cX11_put 14 = .ok (.iaload, 1) := by decide +kernel
theorem dX11_put_15 : decode cX11_put 15 = .ok (.ifCond .ge 6, 3) := by decide +kernel
theorem dX11_put_18 : decode cX11_put 18 = .ok (.bipush (-11), 2) := by decide +kernel
theorem dX11_put_20 : decode cX11_put 20 = .ok (.ireturn, 1) := by decide +kernel
theorem dX11_put_21 : decode cX11_put 21 = .ok (.iload_n 2, 1) := by decide +kernel
theorem dX11_put_22 : decode cX11_put 22 = .ok (.ifCond .lt 13, 3) := by decide +kernel
theorem dX11_put_25 : decode cX11_put 25 = .ok (.iload_n 2, 1) := by decide +kernel
theorem dX11_put_26 : decode cX11_put 26 = .ok (.aload_n 0, 1) := by decide +kernel
theorem dX11_put_27 : decode cX11_put 27 = .ok (.getfield 70, 3) := by decide +kernel
theorem dX11_put_30 : decode cX11_put 30 = .ok (.iload_n 1, 1) := by decide +kernel
theorem dX11_put_31 : decode cX11_put 31 = .ok (.iaload, 1) := by decide +kernel
theorem dX11_put_32 : decode cX11_put 32 = .ok (.if_icmp .lt 6, 3) := by decide +kernel
theorem dX11_put_35 : decode cX11_put 35 = .ok (.bipush (-13), 2) := by decide +kernel
theorem dX11_put_37 : decode cX11_put 37 = .ok (.ireturn, 1) := by decide +kernel
theorem dX11_put_38 : decode cX11_put 38 = .ok (.aload_n 0, 1) := by decide +kernel
theorem dX11_put_39 : decode cX11_put 39 = .ok (.getfield 74, 3) := by decide +kernel
theorem dX11_put_42 : decode cX11_put 42 = .ok (.bipush 12, 2) := by decide +kernel
theorem dX11_put_44 : decode cX11_put 44 = .ok (.iload_n 1, 1) := by decide +kernel
theorem dX11_put_45 : decode cX11_put 45 = .ok (.imul, 1) := by decide +kernel
theorem dX11_put_46 : decode cX11_put 46 = .ok (.iload_n 2, 1) := by decide +kernel
theorem dX11_put_47 : decode cX11_put 47 = .ok (.iadd, 1) := by decide +kernel
theorem dX11_put_48 : decode cX11_put 48 = .ok (.lload_n 3, 1) := by decide +kernel
theorem dX11_put_49 : decode cX11_put 49 = .ok (.lastore, 1) := by decide +kernel
theorem dX11_put_50 : decode cX11_put 50 = .ok (.iconst 1, 1) := by decide +kernel
theorem dX11_put_51 : decode cX11_put 51 = .ok (.ireturn, 1) := by decide +kernel
theorem dX11_read_0 : decode cX11_read 0 = .ok (.aload_n 0, 1) := by decide +kernel
theorem dX11_read_1 : decode cX11_read 1 = .ok (.getfield 81, 3) := by decide +kernel
theorem dX11_read_4 : decode cX11_read 4 = .ok (.invokevirtual 297, 3) := by decide +kernel
theorem dX11_read_7 : decode cX11_read 7 = .ok (.istore_n 1, 1) := by decide +kernel
theorem dX11_read_8 : decode cX11_read 8 = .ok (.iload_n 1, 1) := by decide +kernel
theorem dX11_read_9 : decode cX11_read 9 = .ok (.bipush (-5), 2) := by decide +kernel
theorem dX11_read_11 : decode cX11_read 11 = .ok (.if_icmp .ne 10, 3) := by decide +kernel
theorem dX11_read_14 : decode cX11_read 14 = .ok (.aload_n 0, 1) := by decide +kernel
theorem dX11_read_15 : decode cX11_read 15 = .ok (.invokevirtual 300, 3) := by decide +kernel
theorem dX11_read_18 : decode cX11_read 18 = .ok (.goto 7, 3) := by decide +kernel
theorem dX11_read_21 : decode cX11_read 21 = .ok (.bipush (-100), 2) := by decide +kernel
theorem dX11_read_23 : decode cX11_read 23 = .ok (.iload_n 1, 1) := by decide +kernel
theorem dX11_read_24 : decode cX11_read 24 = .ok (.isub, 1) := by decide +kernel
theorem dX11_read_25 : decode cX11_read 25 = .ok (.istore_n 2, 1) := by decide +kernel
theorem dX11_read_26 : decode cX11_read 26 = .ok (.aload_n 0, 1) := by decide +kernel
theorem dX11_read_27 : decode cX11_read 27 = .ok (.getfield 81, 3) := by decide +kernel
theorem dX11_read_30 : decode cX11_read 30 = .ok (.iconst 0, 1) := by decide +kernel
theorem dX11_read_31 : decode cX11_read 31 = .ok (.putfield 293, 3) := by decide +kernel
theorem dX11_read_34 : decode cX11_read 34 = .ok (.iload_n 2, 1) := by decide +kernel
theorem dX11_read_35 : decode cX11_read 35 = .ok (.ireturn, 1) := by decide +kernel
theorem dX11_relabel_0 : decode cX11_relabel 0 = .ok (.aload_n 0, 1) := by decide +kernel
theorem dX11_relabel_1 : decode cX11_relabel 1 = .ok (.iload_n 1, 1) := by decide +kernel
theorem dX11_relabel_2 : decode cX11_relabel 2 = .ok (.iload_n 2, 1) := by decide +kernel
theorem dX11_relabel_3 : decode cX11_relabel 3 = .ok (.invokevirtual 195, 3) := by decide +kernel
theorem dX11_relabel_6 : decode cX11_relabel 6 = .ok (.ifCond .eq 26, 3) := by decide +kernel
theorem dX11_relabel_9 : decode cX11_relabel 9 = .ok (.aload_n 0, 1) := by decide +kernel
theorem dX11_relabel_10 : decode cX11_relabel 10 = .ok (.iload_n 1, 1) := by decide +kernel
theorem dX11_relabel_11 : decode cX11_relabel 11 = .ok (.iload_n 3, 1) := by decide +kernel
theorem dX11_relabel_12 : decode cX11_relabel 12 = .ok (.invokevirtual 195, 3) := by decide +kernel
theorem dX11_relabel_15 : decode cX11_relabel 15 = .ok (.ifCond .eq 17, 3) := by decide +kernel
theorem dX11_relabel_18 : decode cX11_relabel 18 = .ok (.iload_n 2, 1) := by decide +kernel
theorem dX11_relabel_19 : decode cX11_relabel 19 = .ok (.iload_n 3, 1) := by decide +kernel
theorem dX11_relabel_20 : decode cX11_relabel 20 = .ok (.if_icmp .eq 12, 3) := by decide +kernel
theorem dX11_relabel_23 : decode cX11_relabel 23 = .ok (.aload_n 0, 1) := by decide +kernel
theorem dX11_relabel_24 : decode cX11_relabel 24 = .ok (.iload 4, 2) := by decide +kernel
theorem dX11_relabel_26 : decode cX11_relabel 26 = .ok (.invokevirtual 101, 3) := by decide +kernel
theorem dX11_relabel_29 : decode cX11_relabel 29 = .ok (.ifCond .ne 5, 3) := by decide +kernel
theorem dX11_relabel_32 : decode cX11_relabel 32 = .ok (.iconst (-1), 1) := by decide +kernel
theorem dX11_relabel_33 : decode cX11_relabel 33 = .ok (.ireturn, 1) := by decide +kernel
theorem dX11_relabel_34 : decode cX11_relabel 34 = .ok (.aload_n 0, 1) := by decide +kernel
theorem dX11_relabel_35 : decode cX11_relabel 35 = .ok (.getfield 12, 3) := by decide +kernel
theorem dX11_relabel_38 : decode cX11_relabel 38 = .ok (.getfield 177, 3) := by decide +kernel
theorem dX11_relabel_41 : decode cX11_relabel 41 = .ok (.iload_n 1, 1) := by decide +kernel
theorem dX11_relabel_42 : decode cX11_relabel 42 = .ok (.aaload, 1) := by decide +kernel
theorem dX11_relabel_43 : decode cX11_relabel 43 = .ok (.iload_n 2, 1) := by decide +kernel
theorem dX11_relabel_44 : decode cX11_relabel 44 = .ok (.iload_n 3, 1) := by decide +kernel
theorem dX11_relabel_45 : decode cX11_relabel 45 = .ok (.invokevirtual 198, 3) := by decide +kernel
theorem dX11_relabel_48 : decode cX11_relabel 48 = .ok (.istore 5, 2) := by decide +kernel
theorem dX11_relabel_50 : decode cX11_relabel 50 = .ok (.aload_n 0, 1) := by decide +kernel
theorem dX11_relabel_51 : decode cX11_relabel 51 = .ok (.getfield 12, 3) := by decide +kernel
theorem dX11_relabel_54 : decode cX11_relabel 54 = .ok (.getfield 177, 3) := by decide +kernel
theorem dX11_relabel_57 : decode cX11_relabel 57 = .ok (.iload_n 1, 1) := by decide +kernel
theorem dX11_relabel_58 : decode cX11_relabel 58 = .ok (.aaload, 1) := by decide +kernel
theorem dX11_relabel_59 : decode cX11_relabel 59 = .ok (.iload_n 2, 1) := by decide +kernel
theorem dX11_relabel_60 : decode cX11_relabel 60 = .ok (.iload_n 3, 1) := by decide +kernel
theorem dX11_relabel_61 : decode cX11_relabel 61 = .ok (.iload 4, 2) := by decide +kernel
theorem dX11_relabel_63 : decode cX11_relabel 63 = .ok (.aload_n 0, 1) := by decide +kernel
theorem dX11_relabel_64 : decode cX11_relabel 64 = .ok (.getfield 12, 3) := by decide +kernel
theorem dX11_relabel_67 : decode cX11_relabel 67 = .ok (.getfield 52, 3) := by decide +kernel
theorem dX11_relabel_70 : decode cX11_relabel 70 = .ok (.invokevirtual 201, 3) := by decide +kernel
theorem dX11_relabel_73 : decode cX11_relabel 73 = .ok (.iload 5, 2) := by decide +kernel
theorem dX11_relabel_75 : decode cX11_relabel 75 = .ok (.ireturn, 1) := by decide +kernel
theorem dX11_solved_0 : decode cX11_solved 0 = .ok (.aload_n 0, 1) := by decide +kernel
theorem dX11_solved_1 : decode cX11_solved 1 = .ok (.iload_n 1, 1) := by decide +kernel
theorem dX11_solved_2 : decode cX11_solved 2 = .ok (.invokevirtual 113, 3) := by decide +kernel
theorem dX11_solved_5 : decode cX11_solved 5 = .ok (.ifCond .eq 18, 3) := by decide +kernel
theorem dX11_solved_8 : decode cX11_solved 8 = .ok (.aload_n 0, 1) := by decide +kernel
theorem dX11_solved_9 : decode cX11_solved 9 = .ok (.iload_n 2, 1) := by decide +kernel
theorem dX11_solved_10 : decode cX11_solved 10 = .ok (.invokevirtual 113, 3) := by decide +kernel
theorem dX11_solved_13 : decode cX11_solved 13 = .ok (.ifCond .eq 10, 3) := by decide +kernel
theorem dX11_solved_16 : decode cX11_solved 16 = .ok (.iload_n 3, 1) := by decide +kernel
theorem dX11_solved_17 : decode cX11_solved 17 = .ok (.invokestatic 135, 3) := by decide +kernel
theorem dX11_solved_20 : decode cX11_solved 20 = .ok (.ifCond .ne 6, 3) := by decide +kernel
theorem dX11_solved_23 : decode cX11_solved 23 = .ok (.bipush (-2), 2) := by decide +kernel
theorem dX11_solved_25 : decode cX11_solved 25 = .ok (.ireturn, 1) := by decide +kernel
theorem dX11_solved_26 : decode cX11_solved 26 = .ok (.iload 4, 2) := by decide +kernel
theorem dX11_solved_28 : decode cX11_solved 28 = .ok (.ifCond .lt 9, 3) := by decide +kernel
theorem dX11_solved_31 : decode cX11_solved 31 = .ok (.iload 4, 2) := by decide +kernel
theorem dX11_solved_33 : decode cX11_solved 33 = .ok (.iconst 2, 1) := by decide +kernel
theorem dX11_solved_34 : decode cX11_solved 34 = .ok (.if_icmp .le 5, 3) := by decide +kernel
theorem dX11_solved_37 : decode cX11_solved 37 = .ok (.iconst (-1), 1) := by decide +kernel
theorem dX11_solved_38 : decode cX11_solved 38 = .ok (.ireturn, 1) := by decide +kernel
theorem dX11_solved_39 : decode cX11_solved 39 = .ok (.aload_n 0, 1) := by decide +kernel
theorem dX11_solved_40 : decode cX11_solved 40 = .ok (.getfield 12, 3) := by decide +kernel
theorem dX11_solved_43 : decode cX11_solved 43 = .ok (.getfield 52, 3) := by decide +kernel
theorem dX11_solved_46 : decode cX11_solved 46 = .ok (.iload_n 1, 1) := by decide +kernel
theorem dX11_solved_47 : decode cX11_solved 47 = .ok (.iload_n 2, 1) := by decide +kernel
theorem dX11_solved_48 : decode cX11_solved 48 = .ok (.iload_n 3, 1) := by decide +kernel
theorem dX11_solved_49 : decode cX11_solved 49 = .ok (.iload 4, 2) := by decide +kernel
theorem dX11_solved_51 : decode cX11_solved 51 = .ok (.invokevirtual 152, 3) := by decide +kernel
theorem dX11_solved_54 : decode cX11_solved 54 = .ok (.ireturn, 1) := by decide +kernel
theorem dX11_sound_0 : decode cX11_sound 0 = .ok (.iload_n 1, 1) := by decide +kernel
theorem dX11_sound_1 : decode cX11_sound 1 = .ok (.invokestatic 174, 3) := by decide +kernel
theorem dX11_sound_4 : decode cX11_sound 4 = .ok (.ifCond .eq 25, 3) := by decide +kernel
theorem dX11_sound_7 : decode cX11_sound 7 = .ok (.aload_n 0, 1) := by decide +kernel
theorem dX11_sound_8 : decode cX11_sound 8 = .ok (.getfield 12, 3) := by decide +kernel
theorem dX11_sound_11 : decode cX11_sound 11 = .ok (.getfield 177, 3) := by decide +kernel
theorem dX11_sound_14 : decode cX11_sound 14 = .ok (.iload_n 1, 1) := by decide +kernel
theorem dX11_sound_15 : decode cX11_sound 15 = .ok (.aaload, 1) := by decide +kernel
theorem dX11_sound_16 : decode cX11_sound 16 = .ok (.aload_n 0, 1) := by decide +kernel
theorem dX11_sound_17 : decode cX11_sound 17 = .ok (.getfield 12, 3) := by decide +kernel
theorem dX11_sound_20 : decode cX11_sound 20 = .ok (.getfield 52, 3) := by decide +kernel
theorem dX11_sound_23 : decode cX11_sound 23 = .ok (.invokevirtual 209, 3) := by decide +kernel
theorem dX11_sound_26 : decode cX11_sound 26 = .ok (.goto 4, 3) := by decide +kernel
theorem dX11_sound_29 : decode cX11_sound 29 = .ok (.iconst (-1), 1) := by decide +kernel
theorem dX11_sound_30 : decode cX11_sound 30 = .ok (.ireturn, 1) := by decide +kernel
theorem dX11_spelled_0 : decode cX11_spelled 0 = .ok (.iload_n 1, 1) := by decide +kernel
theorem dX11_spelled_1 : decode cX11_spelled 1 = .ok (.iconst (-1), 1) := by decide +kernel
theorem dX11_spelled_2 : decode cX11_spelled 2 = .ok (.if_icmp .ge 5, 3) := by decide +kernel
theorem dX11_spelled_5 : decode cX11_spelled 5 = .ok (.iconst (-1), 1) := by decide +kernel
theorem dX11_spelled_6 : decode cX11_spelled 6 = .ok (.ireturn, 1) := by decide +kernel
theorem dX11_spelled_7 : decode cX11_spelled 7 = .ok (.aload_n 0, 1) := by decide +kernel
theorem dX11_spelled_8 : decode cX11_spelled 8 = .ok (.getfield 85, 3) := by decide +kernel
theorem dX11_spelled_11 : decode cX11_spelled 11 = .ok (.aload_n 0, 1) := by decide +kernel
theorem dX11_spelled_12 : decode cX11_spelled 12 = .ok (.getfield 12, 3) := by decide +kernel
theorem dX11_spelled_15 : decode cX11_spelled 15 = .ok (.getfield 52, 3) := by decide +kernel
theorem dX11_spelled_18 : decode cX11_spelled 18 = .ok (.invokevirtual 303, 3) := by decide +kernel
theorem dX11_spelled_21 : decode cX11_spelled 21 = .ok (.iload_n 1, 1) := by decide +kernel
theorem dX11_spelled_22 : decode cX11_spelled 22 = .ok (.iconst (-1), 1) := by decide +kernel
theorem dX11_spelled_23 : decode cX11_spelled 23 = .ok (.if_icmp .ne 11, 3) := by decide +kernel
theorem dX11_spelled_26 : decode cX11_spelled 26 = .ok (.aload_n 0, 1) := by decide +kernel
theorem dX11_spelled_27 : decode cX11_spelled 27 = .ok (.getfield 85, 3) := by decide +kernel
theorem dX11_spelled_30 : decode cX11_spelled 30 = .ok (.getfield 293, 3) := by decide +kernel
theorem dX11_spelled_33 : decode cX11_spelled 33 = .ok (.ireturn, 1) := by decide +kernel
theorem dX11_spelled_34 : decode cX11_spelled 34 = .ok (.iload_n 1, 1) := by decide +kernel
theorem dX11_spelled_35 : decode cX11_spelled 35 = .ok (.aload_n 0, 1) := by decide +kernel
theorem dX11_spelled_36 : decode cX11_spelled 36 = .ok (.getfield 85, 3) := by decide +kernel
theorem dX11_spelled_39 : decode cX11_spelled 39 = .ok (.getfield 293, 3) := by decide +kernel
theorem dX11_spelled_42 : decode cX11_spelled 42 = .ok (.if_icmp .ge 15, 3) := by decide +kernel
theorem dX11_spelled_45 : decode cX11_spelled 45 = .ok (.aload_n 0, 1) := by decide +kernel
theorem dX11_spelled_46 : decode cX11_spelled 46 = .ok (.getfield 85, 3) := by decide +kernel
theorem dX11_spelled_49 : decode cX11_spelled 49 = .ok (.getfield 306, 3) := by decide +kernel
theorem dX11_spelled_52 : decode cX11_spelled 52 = .ok (.iload_n 1, 1) := by decide +kernel
theorem dX11_spelled_53 : decode cX11_spelled 53 = .ok (.baload, 1) := by decide +kernel
theorem dX11_spelled_54 : decode cX11_spelled 54 = .ok (.goto 4, 3) := by decide +kernel
theorem dX11_spelled_57 : decode cX11_spelled 57 = .ok (.iconst (-1), 1) := by decide +kernel
theorem dX11_spelled_58 : decode cX11_spelled 58 = .ok (.ireturn, 1) := by decide +kernel
theorem dX11_statement_0 : decode cX11_statement 0 = .ok (.aload_n 0, 1) := by decide +kernel
theorem dX11_statement_1 : decode cX11_statement 1 = .ok (.getfield 81, 3) := by decide +kernel
theorem dX11_statement_4 : decode cX11_statement 4 = .ok (.iload_n 2, 1) := by decide +kernel
theorem dX11_statement_5 : decode cX11_statement 5 = .ok (.iconst 1, 1) := by decide +kernel
theorem dX11_statement_6 : decode cX11_statement 6 = .ok (.iadd, 1) := by decide +kernel
theorem dX11_statement_7 : decode cX11_statement 7 = .ok (.invokevirtual 333, 3) := by decide +kernel
theorem dX11_statement_10 : decode cX11_statement 10 = .ok (.istore_n 3, 1) := by decide +kernel
theorem dX11_statement_11 : decode cX11_statement 11 = .ok (.aload_n 0, 1) := by decide +kernel
theorem dX11_statement_12 : decode cX11_statement 12 = .ok (.getfield 81, 3) := by decide +kernel
theorem dX11_statement_15 : decode cX11_statement 15 = .ok (.iload_n 2, 1) := by decide +kernel
theorem dX11_statement_16 : decode cX11_statement 16 = .ok (.iconst 3, 1) := by decide +kernel
theorem dX11_statement_17 : decode cX11_statement 17 = .ok (.iadd, 1) := by decide +kernel
theorem dX11_statement_18 : decode cX11_statement 18 = .ok (.invokevirtual 333, 3) := by decide +kernel
theorem dX11_statement_21 : decode cX11_statement 21 = .ok (.istore 4, 2) := by decide +kernel
theorem dX11_statement_23 : decode cX11_statement 23 = .ok (.aload_n 0, 1) := by decide +kernel
theorem dX11_statement_24 : decode cX11_statement 24 = .ok (.getfield 81, 3) := by decide +kernel
theorem dX11_statement_27 : decode cX11_statement 27 = .ok (.iload_n 2, 1) := by decide +kernel
theorem dX11_statement_28 : decode cX11_statement 28 = .ok (.iconst 5, 1) := by decide +kernel
theorem dX11_statement_29 : decode cX11_statement 29 = .ok (.iadd, 1) := by decide +kernel
theorem dX11_statement_30 : decode cX11_statement 30 = .ok (.invokevirtual 333, 3) := by decide +kernel
theorem dX11_statement_33 : decode cX11_statement 33 = .ok (.istore 5, 2) := by decide +kernel
theorem dX11_statement_35 : decode cX11_statement 35 = .ok (.iload_n 1, 1) := by decide +kernel
theorem dX11_statement_36 : decode cX11_statement 36 = .ok (.tableswitch 68 0 3 #[32, 38, 46, 57], 32) := by decide +kernel
theorem dX11_statement_68 : decode cX11_statement 68 = .ok (.aload_n 0, 1) := by decide +kernel
theorem dX11_statement_69 : decode cX11_statement 69 = .ok (.iload_n 3, 1) := by decide +kernel
theorem dX11_statement_70 : decode cX11_statement 70 = .ok (.invokevirtual 336, 3) := by decide +kernel
theorem dX11_statement_73 : decode cX11_statement 73 = .ok (.ireturn, 1) := by decide +kernel
theorem dX11_statement_74 : decode cX11_statement 74 = .ok (.aload_n 0, 1) := by decide +kernel
theorem dX11_statement_75 : decode cX11_statement 75 = .ok (.iload_n 3, 1) := by decide +kernel
theorem dX11_statement_76 : decode cX11_statement 76 = .ok (.iload 4, 2) := by decide +kernel
theorem dX11_statement_78 : decode cX11_statement 78 = .ok (.invokevirtual 339, 3) := by decide +kernel
theorem dX11_statement_81 : decode cX11_statement 81 = .ok (.ireturn, 1) := by decide +kernel
theorem dX11_statement_82 : decode cX11_statement 82 = .ok (.aload_n 0, 1) := by decide +kernel
theorem dX11_statement_83 : decode cX11_statement 83 = .ok (.iload_n 3, 1) := by decide +kernel
theorem dX11_statement_84 : decode cX11_statement 84 = .ok (.iload 4, 2) := by decide +kernel
theorem dX11_statement_86 : decode cX11_statement 86 = .ok (.iload 5, 2) := by decide +kernel
theorem dX11_statement_88 : decode cX11_statement 88 = .ok (.iconst 1, 1) := by decide +kernel
theorem dX11_statement_89 : decode cX11_statement 89 = .ok (.invokevirtual 342, 3) := by decide +kernel
theorem dX11_statement_92 : decode cX11_statement 92 = .ok (.ireturn, 1) := by decide +kernel
theorem dX11_statement_93 : decode cX11_statement 93 = .ok (.aload_n 0, 1) := by decide +kernel
theorem dX11_statement_94 : decode cX11_statement 94 = .ok (.iload_n 3, 1) := by decide +kernel
theorem dX11_statement_95 : decode cX11_statement 95 = .ok (.iload 4, 2) := by decide +kernel
theorem dX11_statement_97 : decode cX11_statement 97 = .ok (.iload 5, 2) := by decide +kernel
theorem dX11_statement_99 : decode cX11_statement 99 = .ok (.iconst 0, 1) := by decide +kernel
theorem dX11_statement_100 : decode cX11_statement 100 = .ok (.invokevirtual 342, 3) := by decide +kernel
theorem dX11_statement_103 : decode cX11_statement 103 = .ok (.ireturn, 1) := by decide +kernel
theorem dX11_statement_104 : decode cX11_statement 104 = .ok (.bipush (-2), 2) := by decide +kernel
theorem dX11_statement_106 : decode cX11_statement 106 = .ok (.ireturn, 1) := by decide +kernel
theorem dX11_take_0 : decode cX11_take 0 = .ok (.iload_n 1, 1) := by decide +kernel
theorem dX11_take_1 : decode cX11_take 1 = .ok (.invokestatic 174, 3) := by decide +kernel
theorem dX11_take_4 : decode cX11_take 4 = .ok (.ifCond .ne 5, 3) := by decide +kernel
theorem dX11_take_7 : decode cX11_take 7 = .ok (.iconst (-1), 1) := by decide +kernel
theorem dX11_take_8 : decode cX11_take 8 = .ok (.ireturn, 1) := by decide +kernel
theorem dX11_take_9 : decode cX11_take 9 = .ok (.aload_n 0, 1) := by decide +kernel
theorem dX11_take_10 : decode cX11_take 10 = .ok (.getfield 59, 3) := by decide +kernel
theorem dX11_take_13 : decode cX11_take 13 = .ok (.getfield 255, 3) := by decide +kernel
theorem dX11_take_16 : decode cX11_take 16 = .ok (.ifCond .ne 6, 3) := by decide +kernel
theorem dX11_take_19 : decode cX11_take 19 = .ok (.bipush (-3), 2) := by decide +kernel
theorem dX11_take_21 : decode cX11_take 21 = .ok (.ireturn, 1) := by decide +kernel
theorem dX11_take_22 : decode cX11_take 22 = .ok (.aload_n 0, 1) := by decide +kernel
theorem dX11_take_23 : decode cX11_take 23 = .ok (.getfield 12, 3) := by decide +kernel
theorem dX11_take_26 : decode cX11_take 26 = .ok (.getfield 177, 3) := by decide +kernel
theorem dX11_take_29 : decode cX11_take 29 = .ok (.iload_n 1, 1) := by decide +kernel
theorem dX11_take_30 : decode cX11_take 30 = .ok (.aaload, 1) := by decide +kernel
theorem dX11_take_31 : decode cX11_take 31 = .ok (.aload_n 0, 1) := by decide +kernel
theorem dX11_take_32 : decode cX11_take 32 = .ok (.getfield 59, 3) := by decide +kernel
theorem dX11_take_35 : decode cX11_take 35 = .ok (.getfield 261, 3) := by decide +kernel
theorem dX11_take_38 : decode cX11_take 38 = .ok (.invokevirtual 205, 3) := by decide +kernel
theorem dX11_take_41 : decode cX11_take 41 = .ok (.aload_n 0, 1) := by decide +kernel
theorem dX11_take_42 : decode cX11_take 42 = .ok (.getfield 59, 3) := by decide +kernel
theorem dX11_take_45 : decode cX11_take 45 = .ok (.getfield 261, 3) := by decide +kernel
theorem dX11_take_48 : decode cX11_take 48 = .ok (.getfield 181, 3) := by decide +kernel
theorem dX11_take_51 : decode cX11_take 51 = .ok (.ireturn, 1) := by decide +kernel
theorem dX11_triangle_0 : decode cX11_triangle 0 = .ok (.aload_n 0, 1) := by decide +kernel
theorem dX11_triangle_1 : decode cX11_triangle 1 = .ok (.iload_n 1, 1) := by decide +kernel
theorem dX11_triangle_2 : decode cX11_triangle 2 = .ok (.invokevirtual 120, 3) := by decide +kernel
theorem dX11_triangle_5 : decode cX11_triangle 5 = .ok (.ifCond .eq 19, 3) := by decide +kernel
theorem dX11_triangle_8 : decode cX11_triangle 8 = .ok (.aload_n 0, 1) := by decide +kernel
theorem dX11_triangle_9 : decode cX11_triangle 9 = .ok (.iload_n 2, 1) := by decide +kernel
theorem dX11_triangle_10 : decode cX11_triangle 10 = .ok (.invokevirtual 120, 3) := by decide +kernel
theorem dX11_triangle_13 : decode cX11_triangle 13 = .ok (.ifCond .eq 11, 3) := by decide +kernel
theorem dX11_triangle_16 : decode cX11_triangle 16 = .ok (.aload_n 0, 1) := by decide +kernel
theorem dX11_triangle_17 : decode cX11_triangle 17 = .ok (.iload_n 3, 1) := by decide +kernel
theorem dX11_triangle_18 : decode cX11_triangle 18 = .ok (.invokevirtual 120, 3) := by decide +kernel
theorem dX11_triangle_21 : decode cX11_triangle 21 = .ok (.ifCond .ne 5, 3) := by decide +kernel
theorem dX11_triangle_24 : decode cX11_triangle 24 = .ok (.iconst (-1), 1) := by decide +kernel
theorem dX11_triangle_25 : decode cX11_triangle 25 = .ok (.ireturn, 1) := by decide +kernel
theorem dX11_triangle_26 : decode cX11_triangle 26 = .ok (.iload 4, 2) := by decide +kernel
theorem dX11_triangle_28 : decode cX11_triangle 28 = .ok (.ifCond .eq 12, 3) := by decide +kernel
theorem dX11_triangle_31 : decode cX11_triangle 31 = .ok (.iload 4, 2) := by decide +kernel
theorem dX11_triangle_33 : decode cX11_triangle 33 = .ok (.iconst 1, 1) := by decide +kernel
theorem dX11_triangle_34 : decode cX11_triangle 34 = .ok (.if_icmp .eq 6, 3) := by decide +kernel
theorem dX11_triangle_37 : decode cX11_triangle 37 = .ok (.bipush (-2), 2) := by decide +kernel
theorem dX11_triangle_39 : decode cX11_triangle 39 = .ok (.ireturn, 1) := by decide +kernel
theorem dX11_triangle_40 : decode cX11_triangle 40 = .ok (.iload_n 1, 1) := by decide +kernel
theorem dX11_triangle_41 : decode cX11_triangle 41 = .ok (.ifCond .eq 11, 3) := by decide +kernel
theorem dX11_triangle_44 : decode cX11_triangle 44 = .ok (.iload_n 2, 1) := by decide +kernel
theorem dX11_triangle_45 : decode cX11_triangle 45 = .ok (.ifCond .eq 7, 3) := by decide +kernel
theorem dX11_triangle_48 : decode cX11_triangle 48 = .ok (.iload_n 3, 1) := by decide +kernel
theorem dX11_triangle_49 : decode cX11_triangle 49 = .ok (.ifCond .ne 6, 3) := by decide +kernel
theorem dX11_triangle_52 : decode cX11_triangle 52 = .ok (.bipush (-3), 2) := by decide +kernel
theorem dX11_triangle_54 : decode cX11_triangle 54 = .ok (.ireturn, 1) := by decide +kernel
theorem dX11_triangle_55 : decode cX11_triangle 55 = .ok (.aload_n 0, 1) := by decide +kernel
theorem dX11_triangle_56 : decode cX11_triangle 56 = .ok (.getfield 12, 3) := by decide +kernel
theorem dX11_triangle_59 : decode cX11_triangle 59 = .ok (.getfield 52, 3) := by decide +kernel
theorem dX11_triangle_62 : decode cX11_triangle 62 = .ok (.iload_n 1, 1) := by decide +kernel
theorem dX11_triangle_63 : decode cX11_triangle 63 = .ok (.iload_n 2, 1) := by decide +kernel
theorem dX11_triangle_64 : decode cX11_triangle 64 = .ok (.iload_n 3, 1) := by decide +kernel
theorem dX11_triangle_65 : decode cX11_triangle 65 = .ok (.iload 4, 2) := by decide +kernel
theorem dX11_triangle_67 : decode cX11_triangle 67 = .ok (.iconst 1, 1) := by decide +kernel
theorem dX11_triangle_68 : decode cX11_triangle 68 = .ok (.if_icmp .ne 7, 3) := by decide +kernel
theorem dX11_triangle_71 : decode cX11_triangle 71 = .ok (.iconst 1, 1) := by decide +kernel
theorem dX11_triangle_72 : decode cX11_triangle 72 = .ok (.goto 4, 3) := by decide +kernel
theorem dX11_triangle_75 : decode cX11_triangle 75 = .ok (.iconst 0, 1) := by decide +kernel
theorem dX11_triangle_76 : decode cX11_triangle 76 = .ok (.invokevirtual 123, 3) := by decide +kernel
theorem dX11_triangle_79 : decode cX11_triangle 79 = .ok (.ireturn, 1) := by decide +kernel
theorem dX11_undo_0 : decode cX11_undo 0 = .ok (.aload_n 0, 1) := by decide +kernel
theorem dX11_undo_1 : decode cX11_undo 1 = .ok (.getfield 21, 3) := by decide +kernel
theorem dX11_undo_4 : decode cX11_undo 4 = .ok (.ifCond .ne 6, 3) := by decide +kernel
theorem dX11_undo_7 : decode cX11_undo 7 = .ok (.bipush (-3), 2) := by decide +kernel
theorem dX11_undo_9 : decode cX11_undo 9 = .ok (.ireturn, 1) := by decide +kernel
theorem dX11_undo_10 : decode cX11_undo 10 = .ok (.aload_n 0, 1) := by decide +kernel
theorem dX11_undo_11 : decode cX11_undo 11 = .ok (.getfield 12, 3) := by decide +kernel
theorem dX11_undo_14 : decode cX11_undo 14 = .ok (.aload_n 0, 1) := by decide +kernel
theorem dX11_undo_15 : decode cX11_undo 15 = .ok (.getfield 18, 3) := by decide +kernel
theorem dX11_undo_18 : decode cX11_undo 18 = .ok (.invokevirtual 310, 3) := by decide +kernel
theorem dX11_undo_21 : decode cX11_undo 21 = .ok (.aload_n 0, 1) := by decide +kernel
theorem dX11_undo_22 : decode cX11_undo 22 = .ok (.getfield 59, 3) := by decide +kernel
theorem dX11_undo_25 : decode cX11_undo 25 = .ok (.iconst 0, 1) := by decide +kernel
theorem dX11_undo_26 : decode cX11_undo 26 = .ok (.putfield 255, 3) := by decide +kernel
theorem dX11_undo_29 : decode cX11_undo 29 = .ok (.aload_n 0, 1) := by decide +kernel
theorem dX11_undo_30 : decode cX11_undo 30 = .ok (.getfield 12, 3) := by decide +kernel
theorem dX11_undo_33 : decode cX11_undo 33 = .ok (.getfield 52, 3) := by decide +kernel
theorem dX11_undo_36 : decode cX11_undo 36 = .ok (.getfield 88, 3) := by decide +kernel
theorem dX11_undo_39 : decode cX11_undo 39 = .ok (.ireturn, 1) := by decide +kernel
theorem dX11_wipe_0 : decode cX11_wipe 0 = .ok (.aload_n 0, 1) := by decide +kernel
theorem dX11_wipe_1 : decode cX11_wipe 1 = .ok (.getfield 81, 3) := by decide +kernel
theorem dX11_wipe_4 : decode cX11_wipe 4 = .ok (.getfield 293, 3) := by decide +kernel
theorem dX11_wipe_7 : decode cX11_wipe 7 = .ok (.istore_n 1, 1) := by decide +kernel
theorem dX11_wipe_8 : decode cX11_wipe 8 = .ok (.aload_n 0, 1) := by decide +kernel
theorem dX11_wipe_9 : decode cX11_wipe 9 = .ok (.getfield 81, 3) := by decide +kernel
theorem dX11_wipe_12 : decode cX11_wipe 12 = .ok (.iconst 0, 1) := by decide +kernel
theorem dX11_wipe_13 : decode cX11_wipe 13 = .ok (.putfield 293, 3) := by decide +kernel
theorem dX11_wipe_16 : decode cX11_wipe 16 = .ok (.iload_n 1, 1) := by decide +kernel
theorem dX11_wipe_17 : decode cX11_wipe 17 = .ok (.ireturn, 1) := by decide +kernel
theorem dX11_won_0 : decode cX11_won 0 = .ok (.aload_n 0, 1) := by decide +kernel
theorem dX11_won_1 : decode cX11_won 1 = .ok (.iload_n 1, 1) := by decide +kernel
theorem dX11_won_2 : decode cX11_won 2 = .ok (.iload_n 2, 1) := by decide +kernel
theorem dX11_won_3 : decode cX11_won 3 = .ok (.invokevirtual 235, 3) := by decide +kernel
theorem dX11_won_6 : decode cX11_won 6 = .ok (.istore_n 3, 1) := by decide +kernel
theorem dX11_won_7 : decode cX11_won 7 = .ok (.iload_n 3, 1) := by decide +kernel
theorem dX11_won_8 : decode cX11_won 8 = .ok (.ifCond .eq 5, 3) := by decide +kernel
theorem dX11_won_11 : decode cX11_won 11 = .ok (.iload_n 3, 1) := by decide +kernel
theorem dX11_won_12 : decode cX11_won 12 = .ok (.ireturn, 1) := by decide +kernel
theorem dX11_won_13 : decode cX11_won 13 = .ok (.aload_n 0, 1) := by decide +kernel
theorem dX11_won_14 : decode cX11_won 14 = .ok (.getfield 46, 3) := by decide +kernel
theorem dX11_won_17 : decode cX11_won 17 = .ok (.aload_n 0, 1) := by decide +kernel
theorem dX11_won_18 : decode cX11_won 18 = .ok (.getfield 12, 3) := by decide +kernel
theorem dX11_won_21 : decode cX11_won 21 = .ok (.getfield 177, 3) := by decide +kernel
theorem dX11_won_24 : decode cX11_won 24 = .ok (.iload_n 1, 1) := by decide +kernel
theorem dX11_won_25 : decode cX11_won 25 = .ok (.aaload, 1) := by decide +kernel
theorem dX11_won_26 : decode cX11_won 26 = .ok (.iload_n 2, 1) := by decide +kernel
theorem dX11_won_27 : decode cX11_won 27 = .ok (.invokevirtual 238, 3) := by decide +kernel
theorem dX11_won_30 : decode cX11_won 30 = .ok (.ifCond .eq 7, 3) := by decide +kernel
theorem dX11_won_33 : decode cX11_won 33 = .ok (.iconst 1, 1) := by decide +kernel
theorem dX11_won_34 : decode cX11_won 34 = .ok (.goto 4, 3) := by decide +kernel
theorem dX11_won_37 : decode cX11_won 37 = .ok (.iconst 0, 1) := by decide +kernel
theorem dX11_won_38 : decode cX11_won 38 = .ok (.ireturn, 1) := by decide +kernel
theorem dX12_answer_0 : decode cX12_answer 0 = .ok (.aload_n 0, 1) := by decide +kernel
theorem dX12_answer_1 : decode cX12_answer 1 = .ok (.getfield 78, 3) := by decide +kernel
theorem dX12_answer_4 : decode cX12_answer 4 = .ok (.ifCond .eq 10, 3) := by decide +kernel
theorem dX12_answer_7 : decode cX12_answer 7 = .ok (.aload_n 0, 1) := by decide +kernel
theorem dX12_answer_8 : decode cX12_answer 8 = .ok (.getfield 226, 3) := by decide +kernel
theorem dX12_answer_11 : decode cX12_answer 11 = .ok (.ifCond .ne 6, 3) := by decide +kernel
theorem dX12_answer_14 : decode cX12_answer 14 = .ok (.bipush (-3), 2) := by decide +kernel
theorem dX12_answer_16 : decode cX12_answer 16 = .ok (.ireturn, 1) := by decide +kernel
theorem dX12_answer_17 : decode cX12_answer 17 = .ok (.aload_n 0, 1) := by decide +kernel
theorem dX12_answer_18 : decode cX12_answer 18 = .ok (.getfield 23, 3) := by decide +kernel
theorem dX12_answer_21 : decode cX12_answer 21 = .ok (.iconst 4, 1) := by decide +kernel
theorem dX12_answer_22 : decode cX12_answer 22 = .ok (.iaload, 1) := by decide +kernel
theorem dX12_answer_23 : decode cX12_answer 23 = .ok (.bipush 6, 2) := by decide +kernel
theorem dX12_answer_25 : decode cX12_answer 25 = .ok (.if_icmp .ne 6, 3) := by decide +kernel
theorem dX12_answer_28 : decode cX12_answer 28 = .ok (.bipush (-4), 2) := by decide +kernel
theorem dX12_answer_30 : decode cX12_answer 30 = .ok (.ireturn, 1) := by decide +kernel
theorem dX12_answer_31 : decode cX12_answer 31 = .ok (.aload_n 0, 1) := by decide +kernel
theorem dX12_answer_32 : decode cX12_answer 32 = .ok (.aload_n 0, 1) := by decide +kernel
theorem dX12_answer_33 : decode cX12_answer 33 = .ok (.getfield 29, 3) := by decide +kernel
theorem dX12_answer_36 : decode cX12_answer 36 = .ok (.iconst 0, 1) := by decide +kernel
theorem dX12_answer_37 : decode cX12_answer 37 = .ok (.iaload, 1) := by decide +kernel
theorem dX12_answer_38 : decode cX12_answer 38 = .ok (.iload_n 1, 1) := by decide +kernel
theorem dX12_answer_39 : decode cX12_answer 39 = .ok (.invokevirtual 232, 3) := by decide +kernel
theorem dX12_answer_42 : decode cX12_answer 42 = .ok (.ifCond .ne 6, 3) := by decide +kernel
theorem dX12_answer_45 : decode cX12_answer 45 = .ok (.bipush (-5), 2) := by decide +kernel
theorem dX12_answer_47 : decode cX12_answer 47 = .ok (.ireturn, 1) := by decide +kernel
theorem dX12_answer_48 : decode cX12_answer 48 = .ok (.aload_n 0, 1) := by decide +kernel
theorem dX12_answer_49 : decode cX12_answer 49 = .ok (.iconst 4, 1) := by decide +kernel
theorem dX12_answer_50 : decode cX12_answer 50 = .ok (.iload_n 1, 1) := by decide +kernel
theorem dX12_answer_51 : decode cX12_answer 51 = .ok (.invokevirtual 151, 3) := by decide +kernel
theorem dX12_answer_54 : decode cX12_answer 54 = .ok (.iconst 0, 1) := by decide +kernel
theorem dX12_answer_55 : decode cX12_answer 55 = .ok (.istore_n 2, 1) := by decide +kernel
theorem dX12_answer_56 : decode cX12_answer 56 = .ok (.iconst 0, 1) := by decide +kernel
theorem dX12_answer_57 : decode cX12_answer 57 = .ok (.istore_n 3, 1) := by decide +kernel
theorem dX12_answer_58 : decode cX12_answer 58 = .ok (.iload_n 3, 1) := by decide +kernel
theorem dX12_answer_59 : decode cX12_answer 59 = .ok (.aload_n 0, 1) := by decide +kernel
theorem dX12_answer_60 : decode cX12_answer 60 = .ok (.getfield 226, 3) := by decide +kernel
theorem dX12_answer_63 : decode cX12_answer 63 = .ok (.if_icmp .ge 38, 3) := by decide +kernel
theorem dX12_answer_66 : decode cX12_answer 66 = .ok (.aload_n 0, 1) := by decide +kernel
theorem dX12_answer_67 : decode cX12_answer 67 = .ok (.iconst 4, 1) := by decide +kernel
theorem dX12_answer_68 : decode cX12_answer 68 = .ok (.aload_n 0, 1) := by decide +kernel
theorem dX12_answer_69 : decode cX12_answer 69 = .ok (.getfield 29, 3) := by decide +kernel
theorem dX12_answer_72 : decode cX12_answer 72 = .ok (.iload_n 3, 1) := by decide +kernel
theorem dX12_answer_73 : decode cX12_answer 73 = .ok (.iaload, 1) := by decide +kernel
theorem dX12_answer_74 : decode cX12_answer 74 = .ok (.invokevirtual 211, 3) := by decide +kernel
theorem dX12_answer_77 : decode cX12_answer 77 = .ok (.ifCond .eq 18, 3) := by decide +kernel
theorem dX12_answer_80 : decode cX12_answer 80 = .ok (.aload_n 0, 1) := by decide +kernel
theorem dX12_answer_81 : decode cX12_answer 81 = .ok (.getfield 29, 3) := by decide +kernel
theorem dX12_answer_84 : decode cX12_answer 84 = .ok (.iload_n 2, 1) := by decide +kernel
theorem dX12_answer_85 : decode cX12_answer 85 = .ok (.aload_n 0, 1) := by decide +kernel
theorem dX12_answer_86 : decode cX12_answer 86 = .ok (.getfield 29, 3) := by decide +kernel
theorem dX12_answer_89 : decode cX12_answer 89 = .ok (.iload_n 3, 1) := by decide +kernel
theorem dX12_answer_90 : decode cX12_answer 90 = .ok (.iaload, 1) := by decide +kernel
theorem dX12_answer_91 : decode cX12_answer 91 = .ok (.iastore, 1) := by decide +kernel
theorem dX12_answer_92 : decode cX12_answer 92 = .ok (.iinc 2 1, 3) := by decide +kernel
theorem dX12_answer_95 : decode cX12_answer 95 = .ok (.iinc 3 1, 3) := by decide +kernel
theorem dX12_answer_98 : decode cX12_answer 98 = .ok (.goto (-40), 3) := by decide +kernel
theorem dX12_answer_101 : decode cX12_answer 101 = .ok (.aload_n 0, 1) := by decide +kernel
theorem dX12_answer_102 : decode cX12_answer 102 = .ok (.iload_n 2, 1) := by decide +kernel
theorem dX12_answer_103 : decode cX12_answer 103 = .ok (.putfield 226, 3) := by decide +kernel
theorem dX12_answer_106 : decode cX12_answer 106 = .ok (.aload_n 0, 1) := by decide +kernel
theorem dX12_answer_107 : decode cX12_answer 107 = .ok (.getfield 23, 3) := by decide +kernel
theorem dX12_answer_110 : decode cX12_answer 110 = .ok (.iconst 4, 1) := by decide +kernel
theorem dX12_answer_111 : decode cX12_answer 111 = .ok (.iaload, 1) := by decide +kernel
theorem dX12_answer_112 : decode cX12_answer 112 = .ok (.iconst 1, 1) := by decide +kernel
theorem dX12_answer_113 : decode cX12_answer 113 = .ok (.isub, 1) := by decide +kernel
theorem dX12_answer_114 : decode cX12_answer 114 = .ok (.istore_n 3, 1) := by decide +kernel
theorem dX12_answer_115 : decode cX12_answer 115 = .ok (.aload_n 0, 1) := by decide +kernel
theorem dX12_answer_116 : decode cX12_answer 116 = .ok (.iconst 4, 1) := by decide +kernel
theorem dX12_answer_117 : decode cX12_answer 117 = .ok (.iconst (-1), 1) := by decide +kernel
theorem dX12_answer_118 : decode cX12_answer 118 = .ok (.invokevirtual 171, 3) := by decide +kernel
theorem dX12_answer_121 : decode cX12_answer 121 = .ok (.istore 4, 2) := by decide +kernel
theorem dX12_answer_123 : decode cX12_answer 123 = .ok (.iload 4, 2) := by decide +kernel
theorem dX12_answer_125 : decode cX12_answer 125 = .ok (.iconst (-1), 1) := by decide +kernel
theorem dX12_answer_126 : decode cX12_answer 126 = .ok (.if_icmp .eq 48, 3) := by decide +kernel
theorem dX12_answer_129 : decode cX12_answer 129 = .ok (.iload 4, 2) := by decide +kernel
theorem dX12_answer_131 : decode cX12_answer 131 = .ok (.bipush 100, 2) := by decide +kernel
theorem dX12_answer_133 : decode cX12_answer 133 = .ok (.idiv, 1) := by decide +kernel
theorem dX12_answer_134 : decode cX12_answer 134 = .ok (.bipush 10, 2) := by decide +kernel
theorem dX12_answer_136 : decode cX12_answer 136 = .ok (.irem, 1) := by decide +kernel
theorem dX12_answer_137 : decode cX12_answer 137 = .ok (.iload_n 3, 1) := by decide +kernel
theorem dX12_answer_138 : decode cX12_answer 138 = .ok (.if_icmp .ne 24, 3) := by decide +kernel
theorem dX12_answer_141 : decode cX12_answer 141 = .ok (.aload_n 0, 1) := by decide +kernel
theorem dX12_answer_142 : decode cX12_answer 142 = .ok (.getfield 29, 3) := by decide +kernel
theorem dX12_answer_145 : decode cX12_answer 145 = .ok (.aload_n 0, 1) := by decide +kernel
theorem dX12_answer_146 : decode cX12_answer 146 = .ok (.getfield 226, 3) := by decide +kernel
theorem dX12_answer_149 : decode cX12_answer 149 = .ok (.iload 4, 2) := by decide +kernel
theorem dX12_answer_151 : decode cX12_answer 151 = .ok (.iastore, 1) := by decide +kernel
theorem dX12_answer_152 : decode cX12_answer 152 = .ok (.aload_n 0, 1) := by decide +kernel
theorem dX12_answer_153 : decode cX12_answer 153 = .ok (.dup, 1) := by decide +kernel
theorem dX12_answer_154 : decode cX12_answer 154 = .ok (.getfield 226, 3) := by decide +kernel
theorem dX12_answer_157 : decode cX12_answer 157 = .ok (.iconst 1, 1) := by decide +kernel
theorem dX12_answer_158 : decode cX12_answer 158 = .ok (.iadd, 1) := by decide +kernel
theorem dX12_answer_159 : decode cX12_answer 159 = .ok (.putfield 226, 3) := by decide +kernel
theorem dX12_answer_162 : decode cX12_answer 162 = .ok (.aload_n 0, 1) := by decide +kernel
theorem dX12_answer_163 : decode cX12_answer 163 = .ok (.iconst 4, 1) := by decide +kernel
theorem dX12_answer_164 : decode cX12_answer 164 = .ok (.iload 4, 2) := by decide +kernel
theorem dX12_answer_166 : decode cX12_answer 166 = .ok (.invokevirtual 171, 3) := by decide +kernel
theorem dX12_answer_169 : decode cX12_answer 169 = .ok (.istore 4, 2) := by decide +kernel
theorem dX12_answer_171 : decode cX12_answer 171 = .ok (.goto (-48), 3) := by decide +kernel
theorem dX12_answer_174 : decode cX12_answer 174 = .ok (.aload_n 0, 1) := by decide +kernel
theorem dX12_answer_175 : decode cX12_answer 175 = .ok (.dup, 1) := by decide +kernel
theorem dX12_answer_176 : decode cX12_answer 176 = .ok (.getfield 229, 3) := by decide +kernel
theorem dX12_answer_179 : decode cX12_answer 179 = .ok (.iconst 1, 1) := by decide +kernel
theorem dX12_answer_180 : decode cX12_answer 180 = .ok (.iadd, 1) := by decide +kernel
theorem dX12_answer_181 : decode cX12_answer 181 = .ok (.putfield 229, 3) := by decide +kernel
theorem dX12_answer_184 : decode cX12_answer 184 = .ok (.aload_n 0, 1) := by decide +kernel
theorem dX12_answer_185 : decode cX12_answer 185 = .ok (.getfield 226, 3) := by decide +kernel
theorem dX12_answer_188 : decode cX12_answer 188 = .ok (.ireturn, 1) := by decide +kernel
theorem dX12_areAtoms_0 : decode cX12_areAtoms 0 = .ok (.iload_n 2, 1) := by decide +kernel
theorem dX12_areAtoms_1 : decode cX12_areAtoms 1 = .ok (.istore_n 3, 1) := by decide +kernel
theorem dX12_areAtoms_2 : decode cX12_areAtoms 2 = .ok (.iconst 0, 1) := by decide +kernel
theorem dX12_areAtoms_3 : decode cX12_areAtoms 3 = .ok (.istore 4, 2) := by decide +kernel
theorem dX12_areAtoms_5 : decode cX12_areAtoms 5 = .ok (.iload 4, 2) := by decide +kernel
theorem dX12_areAtoms_7 : decode cX12_areAtoms 7 = .ok (.aload_n 0, 1) := by decide +kernel
theorem dX12_areAtoms_8 : decode cX12_areAtoms 8 = .ok (.getfield 23, 3) := by decide +kernel
theorem dX12_areAtoms_11 : decode cX12_areAtoms 11 = .ok (.iload_n 1, 1) := by decide +kernel
theorem dX12_areAtoms_12 : decode cX12_areAtoms 12 = .ok (.iaload, 1) := by decide +kernel
theorem dX12_areAtoms_13 : decode cX12_areAtoms 13 = .ok (.if_icmp .ge 27, 3) := by decide +kernel
theorem dX12_areAtoms_16 : decode cX12_areAtoms 16 = .ok (.aload_n 0, 1) := by decide +kernel
theorem dX12_areAtoms_17 : decode cX12_areAtoms 17 = .ok (.iload_n 3, 1) := by decide +kernel
theorem dX12_areAtoms_18 : decode cX12_areAtoms 18 = .ok (.bipush 10, 2) := by decide +kernel
theorem dX12_areAtoms_20 : decode cX12_areAtoms 20 = .ok (.irem, 1) := by decide +kernel
theorem dX12_areAtoms_21 : decode cX12_areAtoms 21 = .ok (.invokevirtual 83, 3) := by decide +kernel
theorem dX12_areAtoms_24 : decode cX12_areAtoms 24 = .ok (.ifCond .ne 5, 3) := by decide +kernel
theorem dX12_areAtoms_27 : decode cX12_areAtoms 27 = .ok (.iconst 0, 1) := by decide +kernel
theorem dX12_areAtoms_28 : decode cX12_areAtoms 28 = .ok (.ireturn, 1) := by decide +kernel
theorem dX12_areAtoms_29 : decode cX12_areAtoms 29 = .ok (.iload_n 3, 1) := by decide +kernel
theorem dX12_areAtoms_30 : decode cX12_areAtoms 30 = .ok (.bipush 10, 2) := by decide +kernel
theorem dX12_areAtoms_32 : decode cX12_areAtoms 32 = .ok (.idiv, 1) := by decide +kernel
theorem dX12_areAtoms_33 : decode cX12_areAtoms 33 = .ok (.istore_n 3, 1) := by decide +kernel
theorem dX12_areAtoms_34 : decode cX12_areAtoms 34 = .ok (.iinc 4 1, 3) := by decide +kernel
theorem dX12_areAtoms_37 : decode cX12_areAtoms 37 = .ok (.goto (-32), 3) := by decide +kernel
theorem dX12_areAtoms_40 : decode cX12_areAtoms 40 = .ok (.iload_n 3, 1) := by decide +kernel
theorem dX12_areAtoms_41 : decode cX12_areAtoms 41 = .ok (.ifCond .ne 7, 3) := by decide +kernel
theorem dX12_areAtoms_44 : decode cX12_areAtoms 44 = .ok (.iconst 1, 1) := by decide +kernel
theorem dX12_areAtoms_45 : decode cX12_areAtoms 45 = .ok (.goto 4, 3) := by decide +kernel
theorem dX12_areAtoms_48 : decode cX12_areAtoms 48 = .ok (.iconst 0, 1) := by decide +kernel
theorem dX12_areAtoms_49 : decode cX12_areAtoms 49 = .ok (.ireturn, 1) := by decide +kernel
theorem dX12_ask_0 : decode cX12_ask 0 = .ok (.aload_n 0, 1) := by decide +kernel
theorem dX12_ask_1 : decode cX12_ask 1 = .ok (.getfield 78, 3) := by decide +kernel
theorem dX12_ask_4 : decode cX12_ask 4 = .ok (.ifCond .ne 6, 3) := by decide +kernel
theorem dX12_ask_7 : decode cX12_ask 7 = .ok (.bipush (-3), 2) := by decide +kernel
theorem dX12_ask_9 : decode cX12_ask 9 = .ok (.ireturn, 1) := by decide +kernel
theorem dX12_ask_10 : decode cX12_ask 10 = .ok (.iload_n 1, 1) := by decide +kernel
theorem dX12_ask_11 : decode cX12_ask 11 = .ok (.i2l, 1) := by decide +kernel
theorem dX12_ask_12 : decode cX12_ask 12 = .ok (.lconst 0, 1) := by decide +kernel
theorem dX12_ask_13 : decode cX12_ask 13 = .ok (.aload_n 0, 1) := by decide +kernel
theorem dX12_ask_14 : decode cX12_ask 14 = .ok (.getfield 226, 3) := by decide +kernel
theorem dX12_ask_17 : decode cX12_ask 17 = .ok (.iconst 1, 1) := by decide +kernel
theorem dX12_ask_18 : decode cX12_ask 18 = .ok (.isub, 1) := by decide +kernel
theorem dX12_ask_19 : decode cX12_ask 19 = .ok (.i2l, 1) := by decide +kernel
theorem dX12_ask_20 : decode cX12_ask 20 = .ok (.invokestatic 70, 3) := by decide +kernel
theorem dX12_ask_23 : decode cX12_ask 23 = .ok (.ifCond .eq 12, 3) := by decide +kernel
theorem dX12_ask_26 : decode cX12_ask 26 = .ok (.aload_n 0, 1) := by decide +kernel
theorem dX12_ask_27 : decode cX12_ask 27 = .ok (.getfield 29, 3) := by decide +kernel
theorem dX12_ask_30 : decode cX12_ask 30 = .ok (.iload_n 1, 1) := by decide +kernel
theorem dX12_ask_31 : decode cX12_ask 31 = .ok (.iaload, 1) := by decide +kernel
theorem dX12_ask_32 : decode cX12_ask 32 = .ok (.goto 4, 3) := by decide +kernel
theorem dX12_ask_35 : decode cX12_ask 35 = .ok (.iconst (-1), 1) := by decide +kernel
theorem dX12_ask_36 : decode cX12_ask 36 = .ok (.ireturn, 1) := by decide +kernel
theorem dX12_atoms_0 : decode cX12_atoms 0 = .ok (.iload_n 1, 1) := by decide +kernel
theorem dX12_atoms_1 : decode cX12_atoms 1 = .ok (.i2l, 1) := by decide +kernel
theorem dX12_atoms_2 : decode cX12_atoms 2 = .ok (.lconst 1, 1) := by decide +kernel
theorem dX12_atoms_3 : decode cX12_atoms 3 = .ok (.ldc2_w 81, 3) := by decide +kernel
theorem dX12_atoms_6 : decode cX12_atoms 6 = .ok (.invokestatic 70, 3) := by decide +kernel
theorem dX12_atoms_9 : decode cX12_atoms 9 = .ok (.ifCond .ne 6, 3) := by decide +kernel
theorem dX12_atoms_12 : decode cX12_atoms 12 = .ok (.bipush (-2), 2) := by decide +kernel
theorem dX12_atoms_14 : decode cX12_atoms 14 = .ok (.ireturn, 1) := by decide +kernel
theorem dX12_atoms_15 : decode cX12_atoms 15 = .ok (.aload_n 0, 1) := by decide +kernel
theorem dX12_atoms_16 : decode cX12_atoms 16 = .ok (.getfield 9, 3) := by decide +kernel
theorem dX12_atoms_19 : decode cX12_atoms 19 = .ok (.istore_n 2, 1) := by decide +kernel
theorem dX12_atoms_20 : decode cX12_atoms 20 = .ok (.aload_n 0, 1) := by decide +kernel
theorem dX12_atoms_21 : decode cX12_atoms 21 = .ok (.iload_n 1, 1) := by decide +kernel
theorem dX12_atoms_22 : decode cX12_atoms 22 = .ok (.putfield 9, 3) := by decide +kernel
theorem dX12_atoms_25 : decode cX12_atoms 25 = .ok (.iconst 0, 1) := by decide +kernel
theorem dX12_atoms_26 : decode cX12_atoms 26 = .ok (.istore_n 3, 1) := by decide +kernel
theorem dX12_atoms_27 : decode cX12_atoms 27 = .ok (.iload_n 3, 1) := by decide +kernel
theorem dX12_atoms_28 : decode cX12_atoms 28 = .ok (.iconst 4, 1) := by decide +kernel
theorem dX12_atoms_29 : decode cX12_atoms 29 = .ok (.if_icmp .ge 16, 3) := by decide +kernel
theorem dX12_atoms_32 : decode cX12_atoms 32 = .ok (.aload_n 0, 1) := by decide +kernel
theorem dX12_atoms_33 : decode cX12_atoms 33 = .ok (.getfield 15, 3) := by decide +kernel
theorem dX12_atoms_36 : decode cX12_atoms 36 = .ok (.iload_n 3, 1) := by decide +kernel
theorem dX12_atoms_37 : decode cX12_atoms 37 = .ok (.iload_n 3, 1) := by decide +kernel
theorem dX12_atoms_38 : decode cX12_atoms 38 = .ok (.iastore, 1) := by decide +kernel
theorem dX12_atoms_39 : decode cX12_atoms 39 = .ok (.iinc 3 1, 3) := by decide +kernel
theorem dX12_atoms_42 : decode cX12_atoms 42 = .ok (.goto (-15), 3) := by decide +kernel
theorem dX12_atoms_45 : decode cX12_atoms 45 = .ok (.aload_n 0, 1) := by decide +kernel
theorem dX12_atoms_46 : decode cX12_atoms 46 = .ok (.invokevirtual 67, 3) := by decide +kernel
theorem dX12_atoms_49 : decode cX12_atoms 49 = .ok (.iload_n 2, 1) := by decide +kernel
theorem dX12_atoms_50 : decode cX12_atoms 50 = .ok (.ireturn, 1) := by decide +kernel
