theorem dX12_isGapOf_0 : decode cX12_isGapOf 0 = .ok (.iload_n 2, 1) := by decide +kernel
theorem dX12_isGapOf_1 : decode cX12_isGapOf 1 = .ok (.sipush 1000, 3) := by decide +kernel
theorem dX12_isGapOf_4 : decode cX12_isGapOf 4 = .ok (.idiv, 1) := by decide +kernel
theorem dX12_isGapOf_5 : decode cX12_isGapOf 5 = .ok (.istore_n 3, 1) := by decide +kernel
theorem dX12_isGapOf_6 : decode cX12_isGapOf 6 = .ok (.iload_n 2, 1) := by decide +kernel
theorem dX12_isGapOf_7 : decode cX12_isGapOf 7 = .ok (.bipush 100, 2) := by decide +kernel
theorem dX12_isGapOf_9 : decode cX12_isGapOf 9 = .ok (.idiv, 1) := by decide +kernel
theorem dX12_isGapOf_10 : decode cX12_isGapOf 10 = .ok (.bipush 10, 2) := by decide +kernel
theorem dX12_isGapOf_12 : decode cX12_isGapOf 12 = .ok (.irem, 1) := by decide +kernel
theorem dX12_isGapOf_13 : decode cX12_isGapOf 13 = .ok (.istore 4, 2) := by decide +kernel
theorem dX12_isGapOf_15 : decode cX12_isGapOf 15 = .ok (.iload_n 2, 1) := by decide +kernel
theorem dX12_isGapOf_16 : decode cX12_isGapOf 16 = .ok (.bipush 10, 2) := by decide +kernel
theorem dX12_isGapOf_18 : decode cX12_isGapOf 18 = .ok (.idiv, 1) := by decide +kernel
theorem dX12_isGapOf_19 : decode cX12_isGapOf 19 = .ok (.bipush 10, 2) := by decide +kernel
theorem dX12_isGapOf_21 : decode cX12_isGapOf 21 = .ok (.irem, 1) := by decide +kernel
theorem dX12_isGapOf_22 : decode cX12_isGapOf 22 = .ok (.istore 5, 2) := by decide +kernel
theorem dX12_isGapOf_24 : decode cX12_isGapOf 24 = .ok (.iload_n 2, 1) := by decide +kernel
theorem dX12_isGapOf_25 : decode cX12_isGapOf 25 = .ok (.bipush 10, 2) := by decide +kernel
theorem dX12_isGapOf_27 : decode cX12_isGapOf 27 = .ok (.irem, 1) := by decide +kernel
theorem dX12_isGapOf_28 : decode cX12_isGapOf 28 = .ok (.istore 6, 2) := by decide +kernel
theorem dX12_isGapOf_30 : decode cX12_isGapOf 30 = .ok (.iload_n 2, 1) := by decide +kernel
theorem dX12_isGapOf_31 : decode cX12_isGapOf 31 = .ok (.ifCond .lt 65, 3) := by decide +kernel
theorem dX12_isGapOf_34 : decode cX12_isGapOf 34 = .ok (.aload_n 0, 1) := by decide +kernel
theorem dX12_isGapOf_35 : decode cX12_isGapOf 35 = .ok (.iload_n 1, 1) := by decide +kernel
theorem dX12_isGapOf_36 : decode cX12_isGapOf 36 = .ok (.iload_n 3, 1) := by decide +kernel
theorem dX12_isGapOf_37 : decode cX12_isGapOf 37 = .ok (.invokevirtual 155, 3) := by decide +kernel
theorem dX12_isGapOf_40 : decode cX12_isGapOf 40 = .ok (.ifCond .eq 56, 3) := by decide +kernel
theorem dX12_isGapOf_43 : decode cX12_isGapOf 43 = .ok (.aload_n 0, 1) := by decide +kernel
theorem dX12_isGapOf_44 : decode cX12_isGapOf 44 = .ok (.iload_n 1, 1) := by decide +kernel
theorem dX12_isGapOf_45 : decode cX12_isGapOf 45 = .ok (.iload 4, 2) := by decide +kernel
theorem dX12_isGapOf_47 : decode cX12_isGapOf 47 = .ok (.invokevirtual 155, 3) := by decide +kernel
theorem dX12_isGapOf_50 : decode cX12_isGapOf 50 = .ok (.ifCond .eq 46, 3) := by decide +kernel
theorem dX12_isGapOf_53 : decode cX12_isGapOf 53 = .ok (.iload_n 3, 1) := by decide +kernel
theorem dX12_isGapOf_54 : decode cX12_isGapOf 54 = .ok (.iload 4, 2) := by decide +kernel
theorem dX12_isGapOf_56 : decode cX12_isGapOf 56 = .ok (.if_icmp .gt 40, 3) := by decide +kernel
theorem dX12_isGapOf_59 : decode cX12_isGapOf 59 = .ok (.aload_n 0, 1) := by decide +kernel
theorem dX12_isGapOf_60 : decode cX12_isGapOf 60 = .ok (.iload 5, 2) := by decide +kernel
theorem dX12_isGapOf_62 : decode cX12_isGapOf 62 = .ok (.invokevirtual 83, 3) := by decide +kernel
theorem dX12_isGapOf_65 : decode cX12_isGapOf 65 = .ok (.ifCond .eq 31, 3) := by decide +kernel
theorem dX12_isGapOf_68 : decode cX12_isGapOf 68 = .ok (.aload_n 0, 1) := by decide +kernel
theorem dX12_isGapOf_69 : decode cX12_isGapOf 69 = .ok (.iload 6, 2) := by decide +kernel
theorem dX12_isGapOf_71 : decode cX12_isGapOf 71 = .ok (.invokevirtual 83, 3) := by decide +kernel
theorem dX12_isGapOf_74 : decode cX12_isGapOf 74 = .ok (.ifCond .eq 22, 3) := by decide +kernel
theorem dX12_isGapOf_77 : decode cX12_isGapOf 77 = .ok (.aload_n 0, 1) := by decide +kernel
theorem dX12_isGapOf_78 : decode cX12_isGapOf 78 = .ok (.iload_n 1, 1) := by decide +kernel
theorem dX12_isGapOf_79 : decode cX12_isGapOf 79 = .ok (.iload_n 3, 1) := by decide +kernel
theorem dX12_isGapOf_80 : decode cX12_isGapOf 80 = .ok (.iload 4, 2) := by decide +kernel
theorem dX12_isGapOf_82 : decode cX12_isGapOf 82 = .ok (.iload 5, 2) := by decide +kernel
theorem dX12_isGapOf_84 : decode cX12_isGapOf 84 = .ok (.iload 6, 2) := by decide +kernel
theorem dX12_isGapOf_86 : decode cX12_isGapOf 86 = .ok (.invokevirtual 167, 3) := by decide +kernel
theorem dX12_isGapOf_89 : decode cX12_isGapOf 89 = .ok (.ifCond .eq 7, 3) := by decide +kernel
theorem dX12_isGapOf_92 : decode cX12_isGapOf 92 = .ok (.iconst 1, 1) := by decide +kernel
theorem dX12_isGapOf_93 : decode cX12_isGapOf 93 = .ok (.goto 4, 3) := by decide +kernel
theorem dX12_isGapOf_96 : decode cX12_isGapOf 96 = .ok (.iconst 0, 1) := by decide +kernel
theorem dX12_isGapOf_97 : decode cX12_isGapOf 97 = .ok (.ireturn, 1) := by decide +kernel
theorem dX12_isIn_0 : decode cX12_isIn 0 = .ok (.aload_n 0, 1) := by decide +kernel
theorem dX12_isIn_1 : decode cX12_isIn 1 = .ok (.iload_n 1, 1) := by decide +kernel
theorem dX12_isIn_2 : decode cX12_isIn 2 = .ok (.invokevirtual 98, 3) := by decide +kernel
theorem dX12_isIn_5 : decode cX12_isIn 5 = .ok (.ifCond .eq 19, 3) := by decide +kernel
theorem dX12_isIn_8 : decode cX12_isIn 8 = .ok (.aload_n 0, 1) := by decide +kernel
theorem dX12_isIn_9 : decode cX12_isIn 9 = .ok (.iload_n 2, 1) := by decide +kernel
theorem dX12_isIn_10 : decode cX12_isIn 10 = .ok (.invokevirtual 98, 3) := by decide +kernel
theorem dX12_isIn_13 : decode cX12_isIn 13 = .ok (.ifCond .eq 11, 3) := by decide +kernel
theorem dX12_isIn_16 : decode cX12_isIn 16 = .ok (.aload_n 0, 1) := by decide +kernel
theorem dX12_isIn_17 : decode cX12_isIn 17 = .ok (.iload_n 3, 1) := by decide +kernel
theorem dX12_isIn_18 : decode cX12_isIn 18 = .ok (.invokevirtual 98, 3) := by decide +kernel
theorem dX12_isIn_21 : decode cX12_isIn 21 = .ok (.ifCond .ne 5, 3) := by decide +kernel
theorem dX12_isIn_24 : decode cX12_isIn 24 = .ok (.iconst (-1), 1) := by decide +kernel
theorem dX12_isIn_25 : decode cX12_isIn 25 = .ok (.ireturn, 1) := by decide +kernel
theorem dX12_isIn_26 : decode cX12_isIn 26 = .ok (.aload_n 0, 1) := by decide +kernel
theorem dX12_isIn_27 : decode cX12_isIn 27 = .ok (.iload_n 1, 1) := by decide +kernel
theorem dX12_isIn_28 : decode cX12_isIn 28 = .ok (.iload_n 2, 1) := by decide +kernel
theorem dX12_isIn_29 : decode cX12_isIn 29 = .ok (.iload_n 3, 1) := by decide +kernel
theorem dX12_isIn_30 : decode cX12_isIn 30 = .ok (.invokevirtual 105, 3) := by decide +kernel
theorem dX12_isIn_33 : decode cX12_isIn 33 = .ok (.ifCond .eq 7, 3) := by decide +kernel
theorem dX12_isIn_36 : decode cX12_isIn 36 = .ok (.iconst 1, 1) := by decide +kernel
theorem dX12_isIn_37 : decode cX12_isIn 37 = .ok (.goto 4, 3) := by decide +kernel
theorem dX12_isIn_40 : decode cX12_isIn 40 = .ok (.iconst 0, 1) := by decide +kernel
theorem dX12_isIn_41 : decode cX12_isIn 41 = .ok (.ireturn, 1) := by decide +kernel
theorem dX12_isLeast_0 : decode cX12_isLeast 0 = .ok (.iconst 1, 1) := by decide +kernel
theorem dX12_isLeast_1 : decode cX12_isLeast 1 = .ok (.istore 4, 2) := by decide +kernel
theorem dX12_isLeast_3 : decode cX12_isLeast 3 = .ok (.iconst 1, 1) := by decide +kernel
theorem dX12_isLeast_4 : decode cX12_isLeast 4 = .ok (.istore 5, 2) := by decide +kernel
theorem dX12_isLeast_6 : decode cX12_isLeast 6 = .ok (.iload 5, 2) := by decide +kernel
theorem dX12_isLeast_8 : decode cX12_isLeast 8 = .ok (.bipush 6, 2) := by decide +kernel
theorem dX12_isLeast_10 : decode cX12_isLeast 10 = .ok (.if_icmp .ge 41, 3) := by decide +kernel
theorem dX12_isLeast_13 : decode cX12_isLeast 13 = .ok (.iload 4, 2) := by decide +kernel
theorem dX12_isLeast_15 : decode cX12_isLeast 15 = .ok (.ifCond .eq 27, 3) := by decide +kernel
theorem dX12_isLeast_18 : decode cX12_isLeast 18 = .ok (.aload_n 0, 1) := by decide +kernel
theorem dX12_isLeast_19 : decode cX12_isLeast 19 = .ok (.iload_n 1, 1) := by decide +kernel
theorem dX12_isLeast_20 : decode cX12_isLeast 20 = .ok (.iload_n 2, 1) := by decide +kernel
theorem dX12_isLeast_21 : decode cX12_isLeast 21 = .ok (.iload_n 3, 1) := by decide +kernel
theorem dX12_isLeast_22 : decode cX12_isLeast 22 = .ok (.iload 5, 2) := by decide +kernel
theorem dX12_isLeast_24 : decode cX12_isLeast 24 = .ok (.invokevirtual 101, 3) := by decide +kernel
theorem dX12_isLeast_27 : decode cX12_isLeast 27 = .ok (.aload_n 0, 1) := by decide +kernel
theorem dX12_isLeast_28 : decode cX12_isLeast 28 = .ok (.iload_n 1, 1) := by decide +kernel
theorem dX12_isLeast_29 : decode cX12_isLeast 29 = .ok (.iload_n 2, 1) := by decide +kernel
theorem dX12_isLeast_30 : decode cX12_isLeast 30 = .ok (.iload_n 3, 1) := by decide +kernel
theorem dX12_isLeast_31 : decode cX12_isLeast 31 = .ok (.iconst 0, 1) := by decide +kernel
theorem dX12_isLeast_32 : decode cX12_isLeast 32 = .ok (.invokevirtual 101, 3) := by decide +kernel
theorem dX12_isLeast_35 : decode cX12_isLeast 35 = .ok (.if_icmp .lt 7, 3) := by decide +kernel
theorem dX12_isLeast_38 : decode cX12_isLeast 38 = .ok (.iconst 1, 1) := by decide +kernel
theorem dX12_isLeast_39 : decode cX12_isLeast 39 = .ok (.goto 4, 3) := by decide +kernel
theorem dX12_isLeast_42 : decode cX12_isLeast 42 = .ok (.iconst 0, 1) := by decide +kernel
theorem dX12_isLeast_43 : decode cX12_isLeast 43 = .ok (.istore 4, 2) := by decide +kernel
theorem dX12_isLeast_45 : decode cX12_isLeast 45 = .ok (.iinc 5 1, 3) := by decide +kernel
theorem dX12_isLeast_48 : decode cX12_isLeast 48 = .ok (.goto (-42), 3) := by decide +kernel
theorem dX12_isLeast_51 : decode cX12_isLeast 51 = .ok (.iload 4, 2) := by decide +kernel
theorem dX12_isLeast_53 : decode cX12_isLeast 53 = .ok (.ireturn, 1) := by decide +kernel
theorem dX12_isLike_0 : decode cX12_isLike 0 = .ok (.iload 5, 2) := by decide +kernel
theorem dX12_isLike_2 : decode cX12_isLike 2 = .ok (.istore 6, 2) := by decide +kernel
theorem dX12_isLike_4 : decode cX12_isLike 4 = .ok (.aload_n 0, 1) := by decide +kernel
theorem dX12_isLike_5 : decode cX12_isLike 5 = .ok (.getfield 23, 3) := by decide +kernel
theorem dX12_isLike_8 : decode cX12_isLike 8 = .ok (.iload_n 1, 1) := by decide +kernel
theorem dX12_isLike_9 : decode cX12_isLike 9 = .ok (.iaload, 1) := by decide +kernel
theorem dX12_isLike_10 : decode cX12_isLike 10 = .ok (.iconst 1, 1) := by decide +kernel
theorem dX12_isLike_11 : decode cX12_isLike 11 = .ok (.isub, 1) := by decide +kernel
theorem dX12_isLike_12 : decode cX12_isLike 12 = .ok (.istore 7, 2) := by decide +kernel
theorem dX12_isLike_14 : decode cX12_isLike 14 = .ok (.iload 7, 2) := by decide +kernel
theorem dX12_isLike_16 : decode cX12_isLike 16 = .ok (.iload_n 3, 1) := by decide +kernel
theorem dX12_isLike_17 : decode cX12_isLike 17 = .ok (.if_icmp .le 49, 3) := by decide +kernel
theorem dX12_isLike_20 : decode cX12_isLike 20 = .ok (.iload 6, 2) := by decide +kernel
theorem dX12_isLike_22 : decode cX12_isLike 22 = .ok (.iload 7, 2) := by decide +kernel
theorem dX12_isLike_24 : decode cX12_isLike 24 = .ok (.invokestatic 138, 3) := by decide +kernel
theorem dX12_isLike_27 : decode cX12_isLike 27 = .ok (.iconst 1, 1) := by decide +kernel
theorem dX12_isLike_28 : decode cX12_isLike 28 = .ok (.isub, 1) := by decide +kernel
theorem dX12_isLike_29 : decode cX12_isLike 29 = .ok (.istore 8, 2) := by decide +kernel
theorem dX12_isLike_31 : decode cX12_isLike 31 = .ok (.iload 8, 2) := by decide +kernel
theorem dX12_isLike_33 : decode cX12_isLike 33 = .ok (.iload 4, 2) := by decide +kernel
theorem dX12_isLike_35 : decode cX12_isLike 35 = .ok (.if_icmp .eq 23, 3) := by decide +kernel
theorem dX12_isLike_38 : decode cX12_isLike 38 = .ok (.aload_n 0, 1) := by decide +kernel
theorem dX12_isLike_39 : decode cX12_isLike 39 = .ok (.iload_n 1, 1) := by decide +kernel
theorem dX12_isLike_40 : decode cX12_isLike 40 = .ok (.iload_n 3, 1) := by decide +kernel
theorem dX12_isLike_41 : decode cX12_isLike 41 = .ok (.iload 7, 2) := by decide +kernel
theorem dX12_isLike_43 : decode cX12_isLike 43 = .ok (.invokevirtual 158, 3) := by decide +kernel
theorem dX12_isLike_46 : decode cX12_isLike 46 = .ok (.aload_n 0, 1) := by decide +kernel
theorem dX12_isLike_47 : decode cX12_isLike 47 = .ok (.iload_n 2, 1) := by decide +kernel
theorem dX12_isLike_48 : decode cX12_isLike 48 = .ok (.iload 4, 2) := by decide +kernel
theorem dX12_isLike_50 : decode cX12_isLike 50 = .ok (.iload 8, 2) := by decide +kernel
theorem dX12_isLike_52 : decode cX12_isLike 52 = .ok (.invokevirtual 158, 3) := by decide +kernel
theorem dX12_isLike_55 : decode cX12_isLike 55 = .ok (.if_icmp .eq 5, 3) := by decide +kernel
theorem dX12_isLike_58 : decode cX12_isLike 58 = .ok (.iconst 0, 1) := by decide +kernel
theorem dX12_isLike_59 : decode cX12_isLike 59 = .ok (.ireturn, 1) := by decide +kernel
theorem dX12_isLike_60 : decode cX12_isLike 60 = .ok (.iinc 7 (-1), 3) := by decide +kernel
theorem dX12_isLike_63 : decode cX12_isLike 63 = .ok (.goto (-49), 3) := by decide +kernel
theorem dX12_isLike_66 : decode cX12_isLike 66 = .ok (.iconst 1, 1) := by decide +kernel
theorem dX12_isLike_67 : decode cX12_isLike 67 = .ok (.ireturn, 1) := by decide +kernel
theorem dX12_isList_0 : decode cX12_isList 0 = .ok (.iload_n 0, 1) := by decide +kernel
theorem dX12_isList_1 : decode cX12_isList 1 = .ok (.i2l, 1) := by decide +kernel
theorem dX12_isList_2 : decode cX12_isList 2 = .ok (.lconst 0, 1) := by decide +kernel
theorem dX12_isList_3 : decode cX12_isList 3 = .ok (.ldc2_w 123, 3) := by decide +kernel
theorem dX12_isList_6 : decode cX12_isList 6 = .ok (.invokestatic 70, 3) := by decide +kernel
theorem dX12_isList_9 : decode cX12_isList 9 = .ok (.ireturn, 1) := by decide +kernel
theorem dX12_isMet_0 : decode cX12_isMet 0 = .ok (.iconst 0, 1) := by decide +kernel
theorem dX12_isMet_1 : decode cX12_isMet 1 = .ok (.istore 4, 2) := by decide +kernel
theorem dX12_isMet_3 : decode cX12_isMet 3 = .ok (.iload 4, 2) := by decide +kernel
theorem dX12_isMet_5 : decode cX12_isMet 5 = .ok (.aload_n 0, 1) := by decide +kernel
theorem dX12_isMet_6 : decode cX12_isMet 6 = .ok (.getfield 235, 3) := by decide +kernel
theorem dX12_isMet_9 : decode cX12_isMet 9 = .ok (.if_icmp .ge 45, 3) := by decide +kernel
theorem dX12_isMet_12 : decode cX12_isMet 12 = .ok (.aload_n 0, 1) := by decide +kernel
theorem dX12_isMet_13 : decode cX12_isMet 13 = .ok (.getfield 32, 3) := by decide +kernel
theorem dX12_isMet_16 : decode cX12_isMet 16 = .ok (.iload 4, 2) := by decide +kernel
theorem dX12_isMet_18 : decode cX12_isMet 18 = .ok (.iaload, 1) := by decide +kernel
theorem dX12_isMet_19 : decode cX12_isMet 19 = .ok (.iload_n 2, 1) := by decide +kernel
theorem dX12_isMet_20 : decode cX12_isMet 20 = .ok (.if_icmp .ne 28, 3) := by decide +kernel
theorem dX12_isMet_23 : decode cX12_isMet 23 = .ok (.aload_n 0, 1) := by decide +kernel
theorem dX12_isMet_24 : decode cX12_isMet 24 = .ok (.getfield 32, 3) := by decide +kernel
theorem dX12_isMet_27 : decode cX12_isMet 27 = .ok (.iload_n 1, 1) := by decide +kernel
theorem dX12_isMet_28 : decode cX12_isMet 28 = .ok (.iload 4, 2) := by decide +kernel
theorem dX12_isMet_30 : decode cX12_isMet 30 = .ok (.isub, 1) := by decide +kernel
theorem dX12_isMet_31 : decode cX12_isMet 31 = .ok (.aload_n 0, 1) := by decide +kernel
theorem dX12_isMet_32 : decode cX12_isMet 32 = .ok (.getfield 235, 3) := by decide +kernel
theorem dX12_isMet_35 : decode cX12_isMet 35 = .ok (.iadd, 1) := by decide +kernel
theorem dX12_isMet_36 : decode cX12_isMet 36 = .ok (.aload_n 0, 1) := by decide +kernel
theorem dX12_isMet_37 : decode cX12_isMet 37 = .ok (.getfield 235, 3) := by decide +kernel
theorem dX12_isMet_40 : decode cX12_isMet 40 = .ok (.irem, 1) := by decide +kernel
theorem dX12_isMet_41 : decode cX12_isMet 41 = .ok (.iaload, 1) := by decide +kernel
theorem dX12_isMet_42 : decode cX12_isMet 42 = .ok (.iload_n 3, 1) := by decide +kernel
theorem dX12_isMet_43 : decode cX12_isMet 43 = .ok (.if_icmp .ne 5, 3) := by decide +kernel
theorem dX12_isMet_46 : decode cX12_isMet 46 = .ok (.iconst 1, 1) := by decide +kernel
theorem dX12_isMet_47 : decode cX12_isMet 47 = .ok (.ireturn, 1) := by decide +kernel
theorem dX12_isMet_48 : decode cX12_isMet 48 = .ok (.iinc 4 1, 3) := by decide +kernel
theorem dX12_isMet_51 : decode cX12_isMet 51 = .ok (.goto (-48), 3) := by decide +kernel
theorem dX12_isMet_54 : decode cX12_isMet 54 = .ok (.iconst 0, 1) := by decide +kernel
theorem dX12_isMet_55 : decode cX12_isMet 55 = .ok (.ireturn, 1) := by decide +kernel
theorem dX12_isNet_0 : decode cX12_isNet 0 = .ok (.iload_n 0, 1) := by decide +kernel
theorem dX12_isNet_1 : decode cX12_isNet 1 = .ok (.i2l, 1) := by decide +kernel
theorem dX12_isNet_2 : decode cX12_isNet 2 = .ok (.lconst 0, 1) := by decide +kernel
theorem dX12_isNet_3 : decode cX12_isNet 3 = .ok (.ldc2_w 123, 3) := by decide +kernel
theorem dX12_isNet_6 : decode cX12_isNet 6 = .ok (.invokestatic 70, 3) := by decide +kernel
theorem dX12_isNet_9 : decode cX12_isNet 9 = .ok (.ireturn, 1) := by decide +kernel
theorem dX12_isNode_0 : decode cX12_isNode 0 = .ok (.iload_n 2, 1) := by decide +kernel
theorem dX12_isNode_1 : decode cX12_isNode 1 = .ok (.i2l, 1) := by decide +kernel
theorem dX12_isNode_2 : decode cX12_isNode 2 = .ok (.lconst 0, 1) := by decide +kernel
theorem dX12_isNode_3 : decode cX12_isNode 3 = .ok (.aload_n 0, 1) := by decide +kernel
theorem dX12_isNode_4 : decode cX12_isNode 4 = .ok (.getfield 23, 3) := by decide +kernel
theorem dX12_isNode_7 : decode cX12_isNode 7 = .ok (.iload_n 1, 1) := by decide +kernel
theorem dX12_isNode_8 : decode cX12_isNode 8 = .ok (.iaload, 1) := by decide +kernel
theorem dX12_isNode_9 : decode cX12_isNode 9 = .ok (.iconst 1, 1) := by decide +kernel
theorem dX12_isNode_10 : decode cX12_isNode 10 = .ok (.isub, 1) := by decide +kernel
theorem dX12_isNode_11 : decode cX12_isNode 11 = .ok (.i2l, 1) := by decide +kernel
theorem dX12_isNode_12 : decode cX12_isNode 12 = .ok (.invokestatic 70, 3) := by decide +kernel
theorem dX12_isNode_15 : decode cX12_isNode 15 = .ok (.ireturn, 1) := by decide +kernel
theorem dX12_isOther_0 : decode cX12_isOther 0 = .ok (.iload_n 1, 1) := by decide +kernel
theorem dX12_isOther_1 : decode cX12_isOther 1 = .ok (.i2l, 1) := by decide +kernel
theorem dX12_isOther_2 : decode cX12_isOther 2 = .ok (.lconst 1, 1) := by decide +kernel
theorem dX12_isOther_3 : decode cX12_isOther 3 = .ok (.aload_n 0, 1) := by decide +kernel
theorem dX12_isOther_4 : decode cX12_isOther 4 = .ok (.getfield 9, 3) := by decide +kernel
theorem dX12_isOther_7 : decode cX12_isOther 7 = .ok (.iconst 1, 1) := by decide +kernel
theorem dX12_isOther_8 : decode cX12_isOther 8 = .ok (.isub, 1) := by decide +kernel
theorem dX12_isOther_9 : decode cX12_isOther 9 = .ok (.i2l, 1) := by decide +kernel
theorem dX12_isOther_10 : decode cX12_isOther 10 = .ok (.invokestatic 70, 3) := by decide +kernel
theorem dX12_isOther_13 : decode cX12_isOther 13 = .ok (.ireturn, 1) := by decide +kernel
theorem dX12_isPictured_0 : decode cX12_isPictured 0 = .ok (.iconst 2, 1) := by decide +kernel
theorem dX12_isPictured_1 : decode cX12_isPictured 1 = .ok (.iload_n 1, 1) := by decide +kernel
theorem dX12_isPictured_2 : decode cX12_isPictured 2 = .ok (.imul, 1) := by decide +kernel
theorem dX12_isPictured_3 : decode cX12_isPictured 3 = .ok (.aload_n 0, 1) := by decide +kernel
theorem dX12_isPictured_4 : decode cX12_isPictured 4 = .ok (.getfield 235, 3) := by decide +kernel
theorem dX12_isPictured_7 : decode cX12_isPictured 7 = .ok (.if_icmp .le 25, 3) := by decide +kernel
theorem dX12_isPictured_10 : decode cX12_isPictured 10 = .ok (.aload_n 0, 1) := by decide +kernel
theorem dX12_isPictured_11 : decode cX12_isPictured 11 = .ok (.invokevirtual 244, 3) := by decide +kernel
theorem dX12_isPictured_14 : decode cX12_isPictured 14 = .ok (.ifCond .eq 16, 3) := by decide +kernel
theorem dX12_isPictured_17 : decode cX12_isPictured 17 = .ok (.aload_n 0, 1) := by decide +kernel
theorem dX12_isPictured_18 : decode cX12_isPictured 18 = .ok (.invokevirtual 248, 3) := by decide +kernel
theorem dX12_isPictured_21 : decode cX12_isPictured 21 = .ok (.bipush (-5), 2) := by decide +kernel
theorem dX12_isPictured_23 : decode cX12_isPictured 23 = .ok (.if_icmp .ne 7, 3) := by decide +kernel
theorem dX12_isPictured_26 : decode cX12_isPictured 26 = .ok (.iconst 1, 1) := by decide +kernel
theorem dX12_isPictured_27 : decode cX12_isPictured 27 = .ok (.goto 4, 3) := by decide +kernel
theorem dX12_isPictured_30 : decode cX12_isPictured 30 = .ok (.iconst 0, 1) := by decide +kernel
theorem dX12_isPictured_31 : decode cX12_isPictured 31 = .ok (.ireturn, 1) := by decide +kernel
theorem dX12_isPictured_32 : decode cX12_isPictured 32 = .ok (.iconst 1, 1) := by decide +kernel
theorem dX12_isPictured_33 : decode cX12_isPictured 33 = .ok (.istore_n 2, 1) := by decide +kernel
theorem dX12_isPictured_34 : decode cX12_isPictured 34 = .ok (.iload_n 2, 1) := by decide +kernel
theorem dX12_isPictured_35 : decode cX12_isPictured 35 = .ok (.aload_n 0, 1) := by decide +kernel
theorem dX12_isPictured_36 : decode cX12_isPictured 36 = .ok (.getfield 9, 3) := by decide +kernel
theorem dX12_isPictured_39 : decode cX12_isPictured 39 = .ok (.if_icmp .ge 65, 3) := by decide +kernel
theorem dX12_isPictured_42 : decode cX12_isPictured 42 = .ok (.iconst 2, 1) := by decide +kernel
theorem dX12_isPictured_43 : decode cX12_isPictured 43 = .ok (.iload_n 1, 1) := by decide +kernel
theorem dX12_isPictured_44 : decode cX12_isPictured 44 = .ok (.imul, 1) := by decide +kernel
theorem dX12_isPictured_45 : decode cX12_isPictured 45 = .ok (.aload_n 0, 1) := by decide +kernel
theorem dX12_isPictured_46 : decode cX12_isPictured 46 = .ok (.getfield 235, 3) := by decide +kernel
theorem dX12_isPictured_49 : decode cX12_isPictured 49 = .ok (.if_icmp .ne 13, 3) := by decide +kernel
theorem dX12_isPictured_52 : decode cX12_isPictured 52 = .ok (.aload_n 0, 1) := by decide +kernel
theorem dX12_isPictured_53 : decode cX12_isPictured 53 = .ok (.getfield 15, 3) := by decide +kernel
theorem dX12_isPictured_56 : decode cX12_isPictured 56 = .ok (.iload_n 2, 1) := by decide +kernel
theorem dX12_isPictured_57 : decode cX12_isPictured 57 = .ok (.iaload, 1) := by decide +kernel
theorem dX12_isPictured_58 : decode cX12_isPictured 58 = .ok (.iload_n 2, 1) := by decide +kernel
theorem dX12_isPictured_59 : decode cX12_isPictured 59 = .ok (.if_icmp .ne 39, 3) := by decide +kernel
theorem dX12_isPictured_62 : decode cX12_isPictured 62 = .ok (.aload_n 0, 1) := by decide +kernel
theorem dX12_isPictured_63 : decode cX12_isPictured 63 = .ok (.getfield 32, 3) := by decide +kernel
theorem dX12_isPictured_66 : decode cX12_isPictured 66 = .ok (.iload_n 1, 1) := by decide +kernel
theorem dX12_isPictured_67 : decode cX12_isPictured 67 = .ok (.iload_n 2, 1) := by decide +kernel
theorem dX12_isPictured_68 : decode cX12_isPictured 68 = .ok (.iastore, 1) := by decide +kernel
theorem dX12_isPictured_69 : decode cX12_isPictured 69 = .ok (.aload_n 0, 1) := by decide +kernel
theorem dX12_isPictured_70 : decode cX12_isPictured 70 = .ok (.getfield 32, 3) := by decide +kernel
theorem dX12_isPictured_73 : decode cX12_isPictured 73 = .ok (.aload_n 0, 1) := by decide +kernel
theorem dX12_isPictured_74 : decode cX12_isPictured 74 = .ok (.getfield 235, 3) := by decide +kernel
theorem dX12_isPictured_77 : decode cX12_isPictured 77 = .ok (.iload_n 1, 1) := by decide +kernel
theorem dX12_isPictured_78 : decode cX12_isPictured 78 = .ok (.isub, 1) := by decide +kernel
theorem dX12_isPictured_79 : decode cX12_isPictured 79 = .ok (.aload_n 0, 1) := by decide +kernel
theorem dX12_isPictured_80 : decode cX12_isPictured 80 = .ok (.getfield 15, 3) := by decide +kernel
theorem dX12_isPictured_83 : decode cX12_isPictured 83 = .ok (.iload_n 2, 1) := by decide +kernel
theorem dX12_isPictured_84 : decode cX12_isPictured 84 = .ok (.iaload, 1) := by decide +kernel
theorem dX12_isPictured_85 : decode cX12_isPictured 85 = .ok (.iastore, 1) := by decide +kernel
theorem dX12_isPictured_86 : decode cX12_isPictured 86 = .ok (.aload_n 0, 1) := by decide +kernel
theorem dX12_isPictured_87 : decode cX12_isPictured 87 = .ok (.iload_n 1, 1) := by decide +kernel
theorem dX12_isPictured_88 : decode cX12_isPictured 88 = .ok (.iconst 1, 1) := by decide +kernel
theorem dX12_isPictured_89 : decode cX12_isPictured 89 = .ok (.iadd, 1) := by decide +kernel
theorem dX12_isPictured_90 : decode cX12_isPictured 90 = .ok (.invokevirtual 252, 3) := by decide +kernel
theorem dX12_isPictured_93 : decode cX12_isPictured 93 = .ok (.ifCond .eq 5, 3) := by decide +kernel
theorem dX12_isPictured_96 : decode cX12_isPictured 96 = .ok (.iconst 1, 1) := by decide +kernel
theorem dX12_isPictured_97 : decode cX12_isPictured 97 = .ok (.ireturn, 1) := by decide +kernel
theorem dX12_isPictured_98 : decode cX12_isPictured 98 = .ok (.iinc 2 1, 3) := by decide +kernel
theorem dX12_isPictured_101 : decode cX12_isPictured 101 = .ok (.goto (-67), 3) := by decide +kernel
theorem dX12_isPictured_104 : decode cX12_isPictured 104 = .ok (.iconst 0, 1) := by decide +kernel
theorem dX12_isPictured_105 : decode cX12_isPictured 105 = .ok (.ireturn, 1) := by decide +kernel
theorem dX12_isPlayed_0 : decode cX12_isPlayed 0 = .ok (.aload_n 0, 1) := by decide +kernel
theorem dX12_isPlayed_1 : decode cX12_isPlayed 1 = .ok (.iload_n 1, 1) := by decide +kernel
theorem dX12_isPlayed_2 : decode cX12_isPlayed 2 = .ok (.invokevirtual 164, 3) := by decide +kernel
theorem dX12_isPlayed_5 : decode cX12_isPlayed 5 = .ok (.bipush (-5), 2) := by decide +kernel
theorem dX12_isPlayed_7 : decode cX12_isPlayed 7 = .ok (.if_icmp .ne 15, 3) := by decide +kernel
theorem dX12_isPlayed_10 : decode cX12_isPlayed 10 = .ok (.aload_n 0, 1) := by decide +kernel
theorem dX12_isPlayed_11 : decode cX12_isPlayed 11 = .ok (.iload_n 1, 1) := by decide +kernel
theorem dX12_isPlayed_12 : decode cX12_isPlayed 12 = .ok (.invokevirtual 202, 3) := by decide +kernel
theorem dX12_isPlayed_15 : decode cX12_isPlayed 15 = .ok (.ifCond .ne 7, 3) := by decide +kernel
theorem dX12_isPlayed_18 : decode cX12_isPlayed 18 = .ok (.iconst 1, 1) := by decide +kernel
theorem dX12_isPlayed_19 : decode cX12_isPlayed 19 = .ok (.goto 4, 3) := by decide +kernel
theorem dX12_isPlayed_22 : decode cX12_isPlayed 22 = .ok (.iconst 0, 1) := by decide +kernel
theorem dX12_isPlayed_23 : decode cX12_isPlayed 23 = .ok (.ireturn, 1) := by decide +kernel
theorem dX12_isRelation_0 : decode cX12_isRelation 0 = .ok (.iload_n 1, 1) := by decide +kernel
theorem dX12_isRelation_1 : decode cX12_isRelation 1 = .ok (.i2l, 1) := by decide +kernel
theorem dX12_isRelation_2 : decode cX12_isRelation 2 = .ok (.lconst 0, 1) := by decide +kernel
theorem dX12_isRelation_3 : decode cX12_isRelation 3 = .ok (.iconst 1, 1) := by decide +kernel
theorem dX12_isRelation_4 : decode cX12_isRelation 4 = .ok (.aload_n 0, 1) := by decide +kernel
theorem dX12_isRelation_5 : decode cX12_isRelation 5 = .ok (.getfield 9, 3) := by decide +kernel
theorem dX12_isRelation_8 : decode cX12_isRelation 8 = .ok (.ishl, 1) := by decide +kernel
theorem dX12_isRelation_9 : decode cX12_isRelation 9 = .ok (.iconst 1, 1) := by decide +kernel
theorem dX12_isRelation_10 : decode cX12_isRelation 10 = .ok (.isub, 1) := by decide +kernel
theorem dX12_isRelation_11 : decode cX12_isRelation 11 = .ok (.i2l, 1) := by decide +kernel
theorem dX12_isRelation_12 : decode cX12_isRelation 12 = .ok (.invokestatic 70, 3) := by decide +kernel
theorem dX12_isRelation_15 : decode cX12_isRelation 15 = .ok (.ireturn, 1) := by decide +kernel
theorem dX12_isWon_0 : decode cX12_isWon 0 = .ok (.iload_n 1, 1) := by decide +kernel
theorem dX12_isWon_1 : decode cX12_isWon 1 = .ok (.ifCond .ne 5, 3) := by decide +kernel
theorem dX12_isWon_4 : decode cX12_isWon 4 = .ok (.iconst 1, 1) := by decide +kernel
theorem dX12_isWon_5 : decode cX12_isWon 5 = .ok (.ireturn, 1) := by decide +kernel
theorem dX12_isWon_6 : decode cX12_isWon 6 = .ok (.aload_n 0, 1) := by decide +kernel
theorem dX12_isWon_7 : decode cX12_isWon 7 = .ok (.iload_n 1, 1) := by decide +kernel
theorem dX12_isWon_8 : decode cX12_isWon 8 = .ok (.invokevirtual 217, 3) := by decide +kernel
theorem dX12_isWon_11 : decode cX12_isWon 11 = .ok (.bipush (-5), 2) := by decide +kernel
theorem dX12_isWon_13 : decode cX12_isWon 13 = .ok (.if_icmp .ne 7, 3) := by decide +kernel
theorem dX12_isWon_16 : decode cX12_isWon 16 = .ok (.iconst 1, 1) := by decide +kernel
theorem dX12_isWon_17 : decode cX12_isWon 17 = .ok (.goto 4, 3) := by decide +kernel
theorem dX12_isWon_20 : decode cX12_isWon 20 = .ok (.iconst 0, 1) := by decide +kernel
theorem dX12_isWon_21 : decode cX12_isWon 21 = .ok (.ireturn, 1) := by decide +kernel
theorem dX12_judge_0 : decode cX12_judge 0 = .ok (.iload_n 1, 1) := by decide +kernel
theorem dX12_judge_1 : decode cX12_judge 1 = .ok (.invokestatic 241, 3) := by decide +kernel
theorem dX12_judge_4 : decode cX12_judge 4 = .ok (.ifCond .ne 5, 3) := by decide +kernel
theorem dX12_judge_7 : decode cX12_judge 7 = .ok (.iconst (-1), 1) := by decide +kernel
theorem dX12_judge_8 : decode cX12_judge 8 = .ok (.ireturn, 1) := by decide +kernel
theorem dX12_judge_9 : decode cX12_judge 9 = .ok (.aload_n 0, 1) := by decide +kernel
theorem dX12_judge_10 : decode cX12_judge 10 = .ok (.getfield 35, 3) := by decide +kernel
theorem dX12_judge_13 : decode cX12_judge 13 = .ok (.iload_n 1, 1) := by decide +kernel
theorem dX12_judge_14 : decode cX12_judge 14 = .ok (.iaload, 1) := by decide +kernel
theorem dX12_judge_15 : decode cX12_judge 15 = .ok (.iconst (-1), 1) := by decide +kernel
theorem dX12_judge_16 : decode cX12_judge 16 = .ok (.if_icmp .ne 6, 3) := by decide +kernel
theorem dX12_judge_19 : decode cX12_judge 19 = .ok (.bipush (-11), 2) := by decide +kernel
theorem dX12_judge_21 : decode cX12_judge 21 = .ok (.ireturn, 1) := by decide +kernel
theorem dX12_judge_22 : decode cX12_judge 22 = .ok (.aload_n 0, 1) := by decide +kernel
theorem dX12_judge_23 : decode cX12_judge 23 = .ok (.getfield 35, 3) := by decide +kernel
theorem dX12_judge_26 : decode cX12_judge 26 = .ok (.iload_n 1, 1) := by decide +kernel
theorem dX12_judge_27 : decode cX12_judge 27 = .ok (.iaload, 1) := by decide +kernel
theorem dX12_judge_28 : decode cX12_judge 28 = .ok (.ifCond .ne 6, 3) := by decide +kernel
theorem dX12_judge_31 : decode cX12_judge 31 = .ok (.bipush (-2), 2) := by decide +kernel
theorem dX12_judge_33 : decode cX12_judge 33 = .ok (.ireturn, 1) := by decide +kernel
theorem dX12_judge_34 : decode cX12_judge 34 = .ok (.aload_n 0, 1) := by decide +kernel
theorem dX12_judge_35 : decode cX12_judge 35 = .ok (.aload_n 0, 1) := by decide +kernel
theorem dX12_judge_36 : decode cX12_judge 36 = .ok (.getfield 35, 3) := by decide +kernel
theorem dX12_judge_39 : decode cX12_judge 39 = .ok (.iload_n 1, 1) := by decide +kernel
theorem dX12_judge_40 : decode cX12_judge 40 = .ok (.iaload, 1) := by decide +kernel
theorem dX12_judge_41 : decode cX12_judge 41 = .ok (.iconst 1, 1) := by decide +kernel
theorem dX12_judge_42 : decode cX12_judge 42 = .ok (.iadd, 1) := by decide +kernel
theorem dX12_judge_43 : decode cX12_judge 43 = .ok (.putfield 235, 3) := by decide +kernel
theorem dX12_judge_46 : decode cX12_judge 46 = .ok (.iconst 1, 1) := by decide +kernel
theorem dX12_judge_47 : decode cX12_judge 47 = .ok (.istore_n 2, 1) := by decide +kernel
theorem dX12_judge_48 : decode cX12_judge 48 = .ok (.iload_n 2, 1) := by decide +kernel
theorem dX12_judge_49 : decode cX12_judge 49 = .ok (.aload_n 0, 1) := by decide +kernel
theorem dX12_judge_50 : decode cX12_judge 50 = .ok (.getfield 235, 3) := by decide +kernel
theorem dX12_judge_53 : decode cX12_judge 53 = .ok (.if_icmp .ge 100, 3) := by decide +kernel
theorem dX12_judge_56 : decode cX12_judge 56 = .ok (.aload_n 0, 1) := by decide +kernel
theorem dX12_judge_57 : decode cX12_judge 57 = .ok (.getfield 38, 3) := by decide +kernel
theorem dX12_judge_60 : decode cX12_judge 60 = .ok (.bipush 12, 2) := by decide +kernel
theorem dX12_judge_62 : decode cX12_judge 62 = .ok (.iload_n 1, 1) := by decide +kernel
theorem dX12_judge_63 : decode cX12_judge 63 = .ok (.imul, 1) := by decide +kernel
theorem dX12_judge_64 : decode cX12_judge 64 = .ok (.iload_n 2, 1) := by decide +kernel
theorem dX12_judge_65 : decode cX12_judge 65 = .ok (.iadd, 1) := by decide +kernel
theorem dX12_judge_66 : decode cX12_judge 66 = .ok (.iconst 1, 1) := by decide +kernel
theorem dX12_judge_67 : decode cX12_judge 67 = .ok (.isub, 1) := by decide +kernel
theorem dX12_judge_68 : decode cX12_judge 68 = .ok (.laload, 1) := by decide +kernel
theorem dX12_judge_69 : decode cX12_judge 69 = .ok (.lstore_n 3, 1) := by decide +kernel
theorem dX12_judge_70 : decode cX12_judge 70 = .ok (.aload_n 0, 1) := by decide +kernel
theorem dX12_judge_71 : decode cX12_judge 71 = .ok (.getfield 38, 3) := by decide +kernel
theorem dX12_judge_74 : decode cX12_judge 74 = .ok (.bipush 12, 2) := by decide +kernel
theorem dX12_judge_76 : decode cX12_judge 76 = .ok (.iload_n 1, 1) := by decide +kernel
theorem dX12_judge_77 : decode cX12_judge 77 = .ok (.imul, 1) := by decide +kernel
theorem dX12_judge_78 : decode cX12_judge 78 = .ok (.aload_n 0, 1) := by decide +kernel
theorem dX12_judge_79 : decode cX12_judge 79 = .ok (.getfield 235, 3) := by decide +kernel
theorem dX12_judge_82 : decode cX12_judge 82 = .ok (.iadd, 1) := by decide +kernel
theorem dX12_judge_83 : decode cX12_judge 83 = .ok (.iload_n 2, 1) := by decide +kernel
theorem dX12_judge_84 : decode cX12_judge 84 = .ok (.isub, 1) := by decide +kernel
theorem dX12_judge_85 : decode cX12_judge 85 = .ok (.iconst 1, 1) := by decide +kernel
theorem dX12_judge_86 : decode cX12_judge 86 = .ok (.isub, 1) := by decide +kernel
theorem dX12_judge_87 : decode cX12_judge 87 = .ok (.laload, 1) := by decide +kernel
theorem dX12_judge_88 : decode cX12_judge 88 = .ok (.lstore 5, 2) := by decide +kernel
theorem dX12_judge_90 : decode cX12_judge 90 = .ok (.lload_n 3, 1) := by decide +kernel
theorem dX12_judge_91 : decode cX12_judge 91 = .ok (.lconst 1, 1) := by decide +kernel
theorem dX12_judge_92 : decode cX12_judge 92 = .ok (.aload_n 0, 1) := by decide +kernel
theorem dX12_judge_93 : decode cX12_judge 93 = .ok (.getfield 9, 3) := by decide +kernel
theorem dX12_judge_96 : decode cX12_judge 96 = .ok (.iconst 1, 1) := by decide +kernel
theorem dX12_judge_97 : decode cX12_judge 97 = .ok (.isub, 1) := by decide +kernel
theorem dX12_judge_98 : decode cX12_judge 98 = .ok (.i2l, 1) := by decide +kernel
theorem dX12_judge_99 : decode cX12_judge 99 = .ok (.invokestatic 70, 3) := by decide +kernel
theorem dX12_judge_102 : decode cX12_judge 102 = .ok (.ifCond .eq 33, 3) := by decide +kernel
theorem dX12_judge_105 : decode cX12_judge 105 = .ok (.lload 5, 2) := by decide +kernel
theorem dX12_judge_107 : decode cX12_judge 107 = .ok (.lconst 1, 1) := by decide +kernel
theorem dX12_judge_108 : decode cX12_judge 108 = .ok (.aload_n 0, 1) := by decide +kernel
theorem dX12_judge_109 : decode cX12_judge 109 = .ok (.getfield 9, 3) := by decide +kernel
theorem dX12_judge_112 : decode cX12_judge 112 = .ok (.iconst 1, 1) := by decide +kernel
theorem dX12_judge_113 : decode cX12_judge 113 = .ok (.isub, 1) := by decide +kernel
theorem dX12_judge_114 : decode cX12_judge 114 = .ok (.i2l, 1) := by decide +kernel
theorem dX12_judge_115 : decode cX12_judge 115 = .ok (.invokestatic 70, 3) := by decide +kernel
theorem dX12_judge_118 : decode cX12_judge 118 = .ok (.ifCond .eq 17, 3) := by decide +kernel
theorem dX12_judge_121 : decode cX12_judge 121 = .ok (.aload_n 0, 1) := by decide +kernel
theorem dX12_judge_122 : decode cX12_judge 122 = .ok (.getfield 15, 3) := by decide +kernel
theorem dX12_judge_125 : decode cX12_judge 125 = .ok (.lload 5, 2) := by decide +kernel
theorem dX12_judge_127 : decode cX12_judge 127 = .ok (.l2i, 1) := by decide +kernel
theorem dX12_judge_128 : decode cX12_judge 128 = .ok (.iaload, 1) := by decide +kernel
theorem dX12_judge_129 : decode cX12_judge 129 = .ok (.i2l, 1) := by decide +kernel
theorem dX12_judge_130 : decode cX12_judge 130 = .ok (.lload_n 3, 1) := by decide +kernel
theorem dX12_judge_131 : decode cX12_judge 131 = .ok (.lcmp, 1) := by decide +kernel
theorem dX12_judge_132 : decode cX12_judge 132 = .ok (.ifCond .eq 7, 3) := by decide +kernel
theorem dX12_judge_135 : decode cX12_judge 135 = .ok (.iload_n 2, 1) := by decide +kernel
theorem dX12_judge_136 : decode cX12_judge 136 = .ok (.iconst 1, 1) := by decide +kernel
theorem dX12_judge_137 : decode cX12_judge 137 = .ok (.isub, 1) := by decide +kernel
theorem dX12_judge_138 : decode cX12_judge 138 = .ok (.ireturn, 1) := by decide +kernel
theorem dX12_judge_139 : decode cX12_judge 139 = .ok (.aload_n 0, 1) := by decide +kernel
theorem dX12_judge_140 : decode cX12_judge 140 = .ok (.getfield 32, 3) := by decide +kernel
theorem dX12_judge_143 : decode cX12_judge 143 = .ok (.iload_n 2, 1) := by decide +kernel
theorem dX12_judge_144 : decode cX12_judge 144 = .ok (.lload_n 3, 1) := by decide +kernel
theorem dX12_judge_145 : decode cX12_judge 145 = .ok (.l2i, 1) := by decide +kernel
theorem dX12_judge_146 : decode cX12_judge 146 = .ok (.iastore, 1) := by decide +kernel
theorem dX12_judge_147 : decode cX12_judge 147 = .ok (.iinc 2 1, 3) := by decide +kernel
theorem dX12_judge_150 : decode cX12_judge 150 = .ok (.goto (-102), 3) := by decide +kernel
theorem dX12_judge_153 : decode cX12_judge 153 = .ok (.aload_n 0, 1) := by decide +kernel
theorem dX12_judge_154 : decode cX12_judge 154 = .ok (.getfield 32, 3) := by decide +kernel
theorem dX12_judge_157 : decode cX12_judge 157 = .ok (.iconst 0, 1) := by decide +kernel
theorem dX12_judge_158 : decode cX12_judge 158 = .ok (.iconst 0, 1) := by decide +kernel
theorem dX12_judge_159 : decode cX12_judge 159 = .ok (.iastore, 1) := by decide +kernel
theorem dX12_judge_160 : decode cX12_judge 160 = .ok (.aload_n 0, 1) := by decide +kernel
theorem dX12_judge_161 : decode cX12_judge 161 = .ok (.invokevirtual 244, 3) := by decide +kernel
theorem dX12_judge_164 : decode cX12_judge 164 = .ok (.ifCond .ne 7, 3) := by decide +kernel
theorem dX12_judge_167 : decode cX12_judge 167 = .ok (.sipush 200, 3) := by decide +kernel
theorem dX12_judge_170 : decode cX12_judge 170 = .ok (.ireturn, 1) := by decide +kernel
theorem dX12_judge_171 : decode cX12_judge 171 = .ok (.aload_n 0, 1) := by decide +kernel
theorem dX12_judge_172 : decode cX12_judge 172 = .ok (.invokevirtual 248, 3) := by decide +kernel
theorem dX12_judge_175 : decode cX12_judge 175 = .ok (.istore_n 2, 1) := by decide +kernel
theorem dX12_judge_176 : decode cX12_judge 176 = .ok (.iload_n 2, 1) := by decide +kernel
theorem dX12_judge_177 : decode cX12_judge 177 = .ok (.bipush (-5), 2) := by decide +kernel
theorem dX12_judge_179 : decode cX12_judge 179 = .ok (.if_icmp .ne 8, 3) := by decide +kernel
theorem dX12_judge_182 : decode cX12_judge 182 = .ok (.bipush (-5), 2) := by decide +kernel
theorem dX12_judge_184 : decode cX12_judge 184 = .ok (.goto 7, 3) := by decide +kernel
theorem dX12_judge_187 : decode cX12_judge 187 = .ok (.bipush 100, 2) := by decide +kernel
theorem dX12_judge_189 : decode cX12_judge 189 = .ok (.iload_n 2, 1) := by decide +kernel
theorem dX12_judge_190 : decode cX12_judge 190 = .ok (.iadd, 1) := by decide +kernel
theorem dX12_judge_191 : decode cX12_judge 191 = .ok (.ireturn, 1) := by decide +kernel
theorem dX12_killer_0 : decode cX12_killer 0 = .ok (.aload_n 0, 1) := by decide +kernel
theorem dX12_killer_1 : decode cX12_killer 1 = .ok (.iload_n 1, 1) := by decide +kernel
theorem dX12_killer_2 : decode cX12_killer 2 = .ok (.iload_n 2, 1) := by decide +kernel
theorem dX12_killer_3 : decode cX12_killer 3 = .ok (.invokevirtual 223, 3) := by decide +kernel
theorem dX12_killer_6 : decode cX12_killer 6 = .ok (.istore_n 3, 1) := by decide +kernel
theorem dX12_killer_7 : decode cX12_killer 7 = .ok (.iload_n 3, 1) := by decide +kernel
theorem dX12_killer_8 : decode cX12_killer 8 = .ok (.ifCond .eq 5, 3) := by decide +kernel
theorem dX12_killer_11 : decode cX12_killer 11 = .ok (.iload_n 3, 1) := by decide +kernel
theorem dX12_killer_12 : decode cX12_killer 12 = .ok (.ireturn, 1) := by decide +kernel
theorem dX12_killer_13 : decode cX12_killer 13 = .ok (.aload_n 0, 1) := by decide +kernel
theorem dX12_killer_14 : decode cX12_killer 14 = .ok (.iload_n 1, 1) := by decide +kernel
theorem dX12_killer_15 : decode cX12_killer 15 = .ok (.iconst 5, 1) := by decide +kernel
theorem dX12_killer_16 : decode cX12_killer 16 = .ok (.invokevirtual 161, 3) := by decide +kernel
theorem dX12_killer_19 : decode cX12_killer 19 = .ok (.aload_n 0, 1) := by decide +kernel
theorem dX12_killer_20 : decode cX12_killer 20 = .ok (.iload_n 2, 1) := by decide +kernel
theorem dX12_killer_21 : decode cX12_killer 21 = .ok (.invokevirtual 217, 3) := by decide +kernel
theorem dX12_killer_24 : decode cX12_killer 24 = .ok (.ireturn, 1) := by decide +kernel
theorem dX12_killerOf_0 : decode cX12_killerOf 0 = .ok (.iload_n 1, 1) := by decide +kernel
theorem dX12_killerOf_1 : decode cX12_killerOf 1 = .ok (.ifCond .ne 6, 3) := by decide +kernel
theorem dX12_killerOf_4 : decode cX12_killerOf 4 = .ok (.bipush (-5), 2) := by decide +kernel
theorem dX12_killerOf_6 : decode cX12_killerOf 6 = .ok (.ireturn, 1) := by decide +kernel
theorem dX12_killerOf_7 : decode cX12_killerOf 7 = .ok (.aload_n 0, 1) := by decide +kernel
theorem dX12_killerOf_8 : decode cX12_killerOf 8 = .ok (.iconst 5, 1) := by decide +kernel
theorem dX12_killerOf_9 : decode cX12_killerOf 9 = .ok (.iconst (-1), 1) := by decide +kernel
theorem dX12_killerOf_10 : decode cX12_killerOf 10 = .ok (.invokevirtual 171, 3) := by decide +kernel
theorem dX12_killerOf_13 : decode cX12_killerOf 13 = .ok (.istore_n 2, 1) := by decide +kernel
theorem dX12_killerOf_14 : decode cX12_killerOf 14 = .ok (.iload_n 2, 1) := by decide +kernel
theorem dX12_killerOf_15 : decode cX12_killerOf 15 = .ok (.iconst (-1), 1) := by decide +kernel
theorem dX12_killerOf_16 : decode cX12_killerOf 16 = .ok (.if_icmp .eq 26, 3) := by decide +kernel
theorem dX12_killerOf_19 : decode cX12_killerOf 19 = .ok (.aload_n 0, 1) := by decide +kernel
theorem dX12_killerOf_20 : decode cX12_killerOf 20 = .ok (.iload_n 2, 1) := by decide +kernel
theorem dX12_killerOf_21 : decode cX12_killerOf 21 = .ok (.iload_n 1, 1) := by decide +kernel
theorem dX12_killerOf_22 : decode cX12_killerOf 22 = .ok (.iconst 1, 1) := by decide +kernel
theorem dX12_killerOf_23 : decode cX12_killerOf 23 = .ok (.isub, 1) := by decide +kernel
theorem dX12_killerOf_24 : decode cX12_killerOf 24 = .ok (.invokevirtual 208, 3) := by decide +kernel
theorem dX12_killerOf_27 : decode cX12_killerOf 27 = .ok (.ifCond .ne 5, 3) := by decide +kernel
theorem dX12_killerOf_30 : decode cX12_killerOf 30 = .ok (.iload_n 2, 1) := by decide +kernel
theorem dX12_killerOf_31 : decode cX12_killerOf 31 = .ok (.ireturn, 1) := by decide +kernel
theorem dX12_killerOf_32 : decode cX12_killerOf 32 = .ok (.aload_n 0, 1) := by decide +kernel
theorem dX12_killerOf_33 : decode cX12_killerOf 33 = .ok (.iconst 5, 1) := by decide +kernel
theorem dX12_killerOf_34 : decode cX12_killerOf 34 = .ok (.iload_n 2, 1) := by decide +kernel
theorem dX12_killerOf_35 : decode cX12_killerOf 35 = .ok (.invokevirtual 171, 3) := by decide +kernel
theorem dX12_killerOf_38 : decode cX12_killerOf 38 = .ok (.istore_n 2, 1) := by decide +kernel
theorem dX12_killerOf_39 : decode cX12_killerOf 39 = .ok (.goto (-25), 3) := by decide +kernel
theorem dX12_killerOf_42 : decode cX12_killerOf 42 = .ok (.bipush (-5), 2) := by decide +kernel
theorem dX12_killerOf_44 : decode cX12_killerOf 44 = .ok (.ireturn, 1) := by decide +kernel
theorem dX12_label_0 : decode cX12_label 0 = .ok (.iload_n 1, 1) := by decide +kernel
theorem dX12_label_1 : decode cX12_label 1 = .ok (.invokestatic 145, 3) := by decide +kernel
theorem dX12_label_4 : decode cX12_label 4 = .ok (.ifCond .eq 31, 3) := by decide +kernel
theorem dX12_label_7 : decode cX12_label 7 = .ok (.aload_n 0, 1) := by decide +kernel
theorem dX12_label_8 : decode cX12_label 8 = .ok (.iload_n 1, 1) := by decide +kernel
theorem dX12_label_9 : decode cX12_label 9 = .ok (.iload_n 2, 1) := by decide +kernel
theorem dX12_label_10 : decode cX12_label 10 = .ok (.invokevirtual 155, 3) := by decide +kernel
theorem dX12_label_13 : decode cX12_label 13 = .ok (.ifCond .eq 22, 3) := by decide +kernel
theorem dX12_label_16 : decode cX12_label 16 = .ok (.aload_n 0, 1) := by decide +kernel
theorem dX12_label_17 : decode cX12_label 17 = .ok (.iload_n 1, 1) := by decide +kernel
theorem dX12_label_18 : decode cX12_label 18 = .ok (.iload_n 3, 1) := by decide +kernel
theorem dX12_label_19 : decode cX12_label 19 = .ok (.invokevirtual 155, 3) := by decide +kernel
theorem dX12_label_22 : decode cX12_label 22 = .ok (.ifCond .eq 13, 3) := by decide +kernel
theorem dX12_label_25 : decode cX12_label 25 = .ok (.aload_n 0, 1) := by decide +kernel
theorem dX12_label_26 : decode cX12_label 26 = .ok (.iload_n 1, 1) := by decide +kernel
theorem dX12_label_27 : decode cX12_label 27 = .ok (.iload_n 2, 1) := by decide +kernel
theorem dX12_label_28 : decode cX12_label 28 = .ok (.iload_n 3, 1) := by decide +kernel
theorem dX12_label_29 : decode cX12_label 29 = .ok (.invokevirtual 158, 3) := by decide +kernel
theorem dX12_label_32 : decode cX12_label 32 = .ok (.goto 4, 3) := by decide +kernel
theorem dX12_label_35 : decode cX12_label 35 = .ok (.iconst (-1), 1) := by decide +kernel
theorem dX12_label_36 : decode cX12_label 36 = .ok (.ireturn, 1) := by decide +kernel
theorem dX12_labelOf_0 : decode cX12_labelOf 0 = .ok (.iload_n 2, 1) := by decide +kernel
theorem dX12_labelOf_1 : decode cX12_labelOf 1 = .ok (.iload_n 3, 1) := by decide +kernel
theorem dX12_labelOf_2 : decode cX12_labelOf 2 = .ok (.if_icmp .ne 7, 3) := by decide +kernel
theorem dX12_labelOf_5 : decode cX12_labelOf 5 = .ok (.iconst 0, 1) := by decide +kernel
theorem dX12_labelOf_6 : decode cX12_labelOf 6 = .ok (.goto 19, 3) := by decide +kernel
theorem dX12_labelOf_9 : decode cX12_labelOf 9 = .ok (.aload_n 0, 1) := by decide +kernel
theorem dX12_labelOf_10 : decode cX12_labelOf 10 = .ok (.getfield 26, 3) := by decide +kernel
theorem dX12_labelOf_13 : decode cX12_labelOf 13 = .ok (.bipush 36, 2) := by decide +kernel
theorem dX12_labelOf_15 : decode cX12_labelOf 15 = .ok (.iload_n 1, 1) := by decide +kernel
theorem dX12_labelOf_16 : decode cX12_labelOf 16 = .ok (.imul, 1) := by decide +kernel
theorem dX12_labelOf_17 : decode cX12_labelOf 17 = .ok (.bipush 6, 2) := by decide +kernel
theorem dX12_labelOf_19 : decode cX12_labelOf 19 = .ok (.iload_n 2, 1) := by decide +kernel
theorem dX12_labelOf_20 : decode cX12_labelOf 20 = .ok (.imul, 1) := by decide +kernel
theorem dX12_labelOf_21 : decode cX12_labelOf 21 = .ok (.iadd, 1) := by decide +kernel
theorem dX12_labelOf_22 : decode cX12_labelOf 22 = .ok (.iload_n 3, 1) := by decide +kernel
theorem dX12_labelOf_23 : decode cX12_labelOf 23 = .ok (.iadd, 1) := by decide +kernel
theorem dX12_labelOf_24 : decode cX12_labelOf 24 = .ok (.iaload, 1) := by decide +kernel
theorem dX12_labelOf_25 : decode cX12_labelOf 25 = .ok (.ireturn, 1) := by decide +kernel
theorem dX12_lasts_0 : decode cX12_lasts 0 = .ok (.aload_n 0, 1) := by decide +kernel
theorem dX12_lasts_1 : decode cX12_lasts 1 = .ok (.iload_n 1, 1) := by decide +kernel
theorem dX12_lasts_2 : decode cX12_lasts 2 = .ok (.iconst 0, 1) := by decide +kernel
theorem dX12_lasts_3 : decode cX12_lasts 3 = .ok (.invokevirtual 223, 3) := by decide +kernel
theorem dX12_lasts_6 : decode cX12_lasts 6 = .ok (.istore_n 2, 1) := by decide +kernel
theorem dX12_lasts_7 : decode cX12_lasts 7 = .ok (.iload_n 2, 1) := by decide +kernel
theorem dX12_lasts_8 : decode cX12_lasts 8 = .ok (.ifCond .eq 5, 3) := by decide +kernel
theorem dX12_lasts_11 : decode cX12_lasts 11 = .ok (.iload_n 2, 1) := by decide +kernel
theorem dX12_lasts_12 : decode cX12_lasts 12 = .ok (.ireturn, 1) := by decide +kernel
theorem dX12_lasts_13 : decode cX12_lasts 13 = .ok (.aload_n 0, 1) := by decide +kernel
theorem dX12_lasts_14 : decode cX12_lasts 14 = .ok (.iload_n 1, 1) := by decide +kernel
theorem dX12_lasts_15 : decode cX12_lasts 15 = .ok (.iconst 5, 1) := by decide +kernel
theorem dX12_lasts_16 : decode cX12_lasts 16 = .ok (.invokevirtual 161, 3) := by decide +kernel
theorem dX12_lasts_19 : decode cX12_lasts 19 = .ok (.aload_n 0, 1) := by decide +kernel
theorem dX12_lasts_20 : decode cX12_lasts 20 = .ok (.iconst 1, 1) := by decide +kernel
theorem dX12_lasts_21 : decode cX12_lasts 21 = .ok (.invokevirtual 205, 3) := by decide +kernel
theorem dX12_lasts_24 : decode cX12_lasts 24 = .ok (.ifCond .ne 7, 3) := by decide +kernel
theorem dX12_lasts_27 : decode cX12_lasts 27 = .ok (.iconst 0, 1) := by decide +kernel
theorem dX12_lasts_28 : decode cX12_lasts 28 = .ok (.goto 16, 3) := by decide +kernel
theorem dX12_lasts_31 : decode cX12_lasts 31 = .ok (.aload_n 0, 1) := by decide +kernel
theorem dX12_lasts_32 : decode cX12_lasts 32 = .ok (.iconst 2, 1) := by decide +kernel
theorem dX12_lasts_33 : decode cX12_lasts 33 = .ok (.invokevirtual 205, 3) := by decide +kernel
theorem dX12_lasts_36 : decode cX12_lasts 36 = .ok (.ifCond .eq 7, 3) := by decide +kernel
theorem dX12_lasts_39 : decode cX12_lasts 39 = .ok (.iconst 2, 1) := by decide +kernel
theorem dX12_lasts_40 : decode cX12_lasts 40 = .ok (.goto 4, 3) := by decide +kernel
theorem dX12_lasts_43 : decode cX12_lasts 43 = .ok (.iconst 1, 1) := by decide +kernel
theorem dX12_lasts_44 : decode cX12_lasts 44 = .ok (.ireturn, 1) := by decide +kernel
theorem dX12_later_0 : decode cX12_later 0 = .ok (.aload_n 0, 1) := by decide +kernel
theorem dX12_later_1 : decode cX12_later 1 = .ok (.getfield 78, 3) := by decide +kernel
theorem dX12_later_4 : decode cX12_later 4 = .ok (.ifCond .eq 10, 3) := by decide +kernel
theorem dX12_later_7 : decode cX12_later 7 = .ok (.aload_n 0, 1) := by decide +kernel
theorem dX12_later_8 : decode cX12_later 8 = .ok (.getfield 226, 3) := by decide +kernel
theorem dX12_later_11 : decode cX12_later 11 = .ok (.ifCond .ne 6, 3) := by decide +kernel
theorem dX12_later_14 : decode cX12_later 14 = .ok (.bipush (-3), 2) := by decide +kernel
theorem dX12_later_16 : decode cX12_later 16 = .ok (.ireturn, 1) := by decide +kernel
theorem dX12_later_17 : decode cX12_later 17 = .ok (.aload_n 0, 1) := by decide +kernel
theorem dX12_later_18 : decode cX12_later 18 = .ok (.getfield 29, 3) := by decide +kernel
theorem dX12_later_21 : decode cX12_later 21 = .ok (.iconst 0, 1) := by decide +kernel
theorem dX12_later_22 : decode cX12_later 22 = .ok (.iaload, 1) := by decide +kernel
theorem dX12_later_23 : decode cX12_later 23 = .ok (.istore_n 1, 1) := by decide +kernel
theorem dX12_later_24 : decode cX12_later 24 = .ok (.iconst 1, 1) := by decide +kernel
theorem dX12_later_25 : decode cX12_later 25 = .ok (.istore_n 2, 1) := by decide +kernel
theorem dX12_later_26 : decode cX12_later 26 = .ok (.iload_n 2, 1) := by decide +kernel
theorem dX12_later_27 : decode cX12_later 27 = .ok (.aload_n 0, 1) := by decide +kernel
theorem dX12_later_28 : decode cX12_later 28 = .ok (.getfield 226, 3) := by decide +kernel
theorem dX12_later_31 : decode cX12_later 31 = .ok (.if_icmp .ge 23, 3) := by decide +kernel
theorem dX12_later_34 : decode cX12_later 34 = .ok (.aload_n 0, 1) := by decide +kernel
theorem dX12_later_35 : decode cX12_later 35 = .ok (.getfield 29, 3) := by decide +kernel
theorem dX12_later_38 : decode cX12_later 38 = .ok (.iload_n 2, 1) := by decide +kernel
theorem dX12_later_39 : decode cX12_later 39 = .ok (.iconst 1, 1) := by decide +kernel
theorem dX12_later_40 : decode cX12_later 40 = .ok (.isub, 1) := by decide +kernel
theorem dX12_later_41 : decode cX12_later 41 = .ok (.aload_n 0, 1) := by decide +kernel
theorem dX12_later_42 : decode cX12_later 42 = .ok (.getfield 29, 3) := by decide +kernel
theorem dX12_later_45 : decode cX12_later 45 = .ok (.iload_n 2, 1) := by decide +kernel
theorem dX12_later_46 : decode cX12_later 46 = .ok (.iaload, 1) := by decide +kernel
theorem dX12_later_47 : decode cX12_later 47 = .ok (.iastore, 1) := by decide +kernel
theorem dX12_later_48 : decode cX12_later 48 = .ok (.iinc 2 1, 3) := by decide +kernel
theorem dX12_later_51 : decode cX12_later 51 = .ok (.goto (-25), 3) := by decide +kernel
theorem dX12_later_54 : decode cX12_later 54 = .ok (.aload_n 0, 1) := by decide +kernel
theorem dX12_later_55 : decode cX12_later 55 = .ok (.getfield 29, 3) := by decide +kernel
theorem dX12_later_58 : decode cX12_later 58 = .ok (.aload_n 0, 1) := by decide +kernel
theorem dX12_later_59 : decode cX12_later 59 = .ok (.getfield 226, 3) := by decide +kernel
theorem dX12_later_62 : decode cX12_later 62 = .ok (.iconst 1, 1) := by decide +kernel
theorem dX12_later_63 : decode cX12_later 63 = .ok (.isub, 1) := by decide +kernel
theorem dX12_later_64 : decode cX12_later 64 = .ok (.iload_n 1, 1) := by decide +kernel
theorem dX12_later_65 : decode cX12_later 65 = .ok (.iastore, 1) := by decide +kernel
theorem dX12_later_66 : decode cX12_later 66 = .ok (.aload_n 0, 1) := by decide +kernel
theorem dX12_later_67 : decode cX12_later 67 = .ok (.getfield 226, 3) := by decide +kernel
theorem dX12_later_70 : decode cX12_later 70 = .ok (.ireturn, 1) := by decide +kernel
theorem dX12_lays_0 : decode cX12_lays 0 = .ok (.aload_n 0, 1) := by decide +kernel
theorem dX12_lays_1 : decode cX12_lays 1 = .ok (.getfield 26, 3) := by decide +kernel
theorem dX12_lays_4 : decode cX12_lays 4 = .ok (.bipush 36, 2) := by decide +kernel
theorem dX12_lays_6 : decode cX12_lays 6 = .ok (.iload_n 1, 1) := by decide +kernel
theorem dX12_lays_7 : decode cX12_lays 7 = .ok (.imul, 1) := by decide +kernel
theorem dX12_lays_8 : decode cX12_lays 8 = .ok (.bipush 6, 2) := by decide +kernel
theorem dX12_lays_10 : decode cX12_lays 10 = .ok (.iload_n 2, 1) := by decide +kernel
theorem dX12_lays_11 : decode cX12_lays 11 = .ok (.imul, 1) := by decide +kernel
theorem dX12_lays_12 : decode cX12_lays 12 = .ok (.iadd, 1) := by decide +kernel
theorem dX12_lays_13 : decode cX12_lays 13 = .ok (.iload_n 3, 1) := by decide +kernel
theorem dX12_lays_14 : decode cX12_lays 14 = .ok (.iadd, 1) := by decide +kernel
theorem dX12_lays_15 : decode cX12_lays 15 = .ok (.iload 4, 2) := by decide +kernel
theorem dX12_lays_17 : decode cX12_lays 17 = .ok (.iastore, 1) := by decide +kernel
theorem dX12_lays_18 : decode cX12_lays 18 = .ok (.aload_n 0, 1) := by decide +kernel
theorem dX12_lays_19 : decode cX12_lays 19 = .ok (.getfield 26, 3) := by decide +kernel
theorem dX12_lays_22 : decode cX12_lays 22 = .ok (.bipush 36, 2) := by decide +kernel
theorem dX12_lays_24 : decode cX12_lays 24 = .ok (.iload_n 1, 1) := by decide +kernel
theorem dX12_lays_25 : decode cX12_lays 25 = .ok (.imul, 1) := by decide +kernel
theorem dX12_lays_26 : decode cX12_lays 26 = .ok (.bipush 6, 2) := by decide +kernel
theorem dX12_lays_28 : decode cX12_lays 28 = .ok (.iload_n 3, 1) := by decide +kernel
theorem dX12_lays_29 : decode cX12_lays 29 = .ok (.imul, 1) := by decide +kernel
theorem dX12_lays_30 : decode cX12_lays 30 = .ok (.iadd, 1) := by decide +kernel
theorem dX12_lays_31 : decode cX12_lays 31 = .ok (.iload_n 2, 1) := by decide +kernel
theorem dX12_lays_32 : decode cX12_lays 32 = .ok (.iadd, 1) := by decide +kernel
theorem dX12_lays_33 : decode cX12_lays 33 = .ok (.aload_n 0, 1) := by decide +kernel
theorem dX12_lays_34 : decode cX12_lays 34 = .ok (.getfield 15, 3) := by decide +kernel
theorem dX12_lays_37 : decode cX12_lays 37 = .ok (.iload 4, 2) := by decide +kernel
theorem dX12_lays_39 : decode cX12_lays 39 = .ok (.iaload, 1) := by decide +kernel
theorem dX12_lays_40 : decode cX12_lays 40 = .ok (.iastore, 1) := by decide +kernel
theorem dX12_lays_41 : decode cX12_lays 41 = .ok (.return_, 1) := by decide +kernel
theorem dX12_likens_0 : decode cX12_likens 0 = .ok (.aload_n 0, 1) := by decide +kernel
theorem dX12_likens_1 : decode cX12_likens 1 = .ok (.getfield 23, 3) := by decide +kernel
theorem dX12_likens_4 : decode cX12_likens 4 = .ok (.iload_n 2, 1) := by decide +kernel
theorem dX12_likens_5 : decode cX12_likens 5 = .ok (.aload_n 0, 1) := by decide +kernel
theorem dX12_likens_6 : decode cX12_likens 6 = .ok (.getfield 23, 3) := by decide +kernel
theorem dX12_likens_9 : decode cX12_likens 9 = .ok (.iload_n 1, 1) := by decide +kernel
theorem dX12_likens_10 : decode cX12_likens 10 = .ok (.iaload, 1) := by decide +kernel
theorem dX12_likens_11 : decode cX12_likens 11 = .ok (.iastore, 1) := by decide +kernel
theorem dX12_likens_12 : decode cX12_likens 12 = .ok (.iconst 0, 1) := by decide +kernel
theorem dX12_likens_13 : decode cX12_likens 13 = .ok (.istore_n 3, 1) := by decide +kernel
theorem dX12_likens_14 : decode cX12_likens 14 = .ok (.iload_n 3, 1) := by decide +kernel
theorem dX12_likens_15 : decode cX12_likens 15 = .ok (.bipush 36, 2) := by decide +kernel
theorem dX12_likens_17 : decode cX12_likens 17 = .ok (.if_icmp .ge 31, 3) := by decide +kernel
theorem dX12_likens_20 : decode cX12_likens 20 = .ok (.aload_n 0, 1) := by decide +kernel
theorem dX12_likens_21 : decode cX12_likens 21 = .ok (.getfield 26, 3) := by decide +kernel
theorem dX12_likens_24 : decode cX12_likens 24 = .ok (.bipush 36, 2) := by decide +kernel
theorem dX12_likens_26 : decode cX12_likens 26 = .ok (.iload_n 2, 1) := by decide +kernel
theorem dX12_likens_27 : decode cX12_likens 27 = .ok (.imul, 1) := by decide +kernel
theorem dX12_likens_28 : decode cX12_likens 28 = .ok (.iload_n 3, 1) := by decide +kernel
theorem dX12_likens_29 : decode cX12_likens 29 = .ok (.iadd, 1) := by decide +kernel
theorem dX12_likens_30 : decode cX12_likens 30 = .ok (.aload_n 0, 1) := by decide +kernel
theorem dX12_likens_31 : decode cX12_likens 31 = .ok (.getfield 26, 3) := by decide +kernel
theorem dX12_likens_34 : decode cX12_likens 34 = .ok (.bipush 36, 2) := by decide +kernel
theorem dX12_likens_36 : decode cX12_likens 36 = .ok (.iload_n 1, 1) := by decide +kernel
theorem dX12_likens_37 : decode cX12_likens 37 = .ok (.imul, 1) := by decide +kernel
theorem dX12_likens_38 : decode cX12_likens 38 = .ok (.iload_n 3, 1) := by decide +kernel
theorem dX12_likens_39 : decode cX12_likens 39 = .ok (.iadd, 1) := by decide +kernel
theorem dX12_likens_40 : decode cX12_likens 40 = .ok (.iaload, 1) := by decide +kernel
theorem dX12_likens_41 : decode cX12_likens 41 = .ok (.iastore, 1) := by decide +kernel
theorem dX12_likens_42 : decode cX12_likens 42 = .ok (.iinc 3 1, 3) := by decide +kernel
theorem dX12_likens_45 : decode cX12_likens 45 = .ok (.goto (-31), 3) := by decide +kernel
theorem dX12_likens_48 : decode cX12_likens 48 = .ok (.return_, 1) := by decide +kernel
theorem dX12_list_0 : decode cX12_list 0 = .ok (.iload_n 1, 1) := by decide +kernel
theorem dX12_list_1 : decode cX12_list 1 = .ok (.invokestatic 241, 3) := by decide +kernel
theorem dX12_list_4 : decode cX12_list 4 = .ok (.ifCond .ne 5, 3) := by decide +kernel
theorem dX12_list_7 : decode cX12_list 7 = .ok (.iconst (-1), 1) := by decide +kernel
theorem dX12_list_8 : decode cX12_list 8 = .ok (.ireturn, 1) := by decide +kernel
theorem dX12_list_9 : decode cX12_list 9 = .ok (.iload_n 2, 1) := by decide +kernel
theorem dX12_list_10 : decode cX12_list 10 = .ok (.bipush 12, 2) := by decide +kernel
theorem dX12_list_12 : decode cX12_list 12 = .ok (.if_icmp .le 6, 3) := by decide +kernel
theorem dX12_list_15 : decode cX12_list 15 = .ok (.bipush (-2), 2) := by decide +kernel
theorem dX12_list_17 : decode cX12_list 17 = .ok (.ireturn, 1) := by decide +kernel
theorem dX12_list_18 : decode cX12_list 18 = .ok (.iload_n 2, 1) := by decide +kernel
theorem dX12_list_19 : decode cX12_list 19 = .ok (.iconst (-1), 1) := by decide +kernel
theorem dX12_list_20 : decode cX12_list 20 = .ok (.if_icmp .ge 6, 3) := by decide +kernel
theorem dX12_list_23 : decode cX12_list 23 = .ok (.bipush (-14), 2) := by decide +kernel
theorem dX12_list_25 : decode cX12_list 25 = .ok (.ireturn, 1) := by decide +kernel
theorem dX12_list_26 : decode cX12_list 26 = .ok (.aload_n 0, 1) := by decide +kernel
theorem dX12_list_27 : decode cX12_list 27 = .ok (.getfield 35, 3) := by decide +kernel
theorem dX12_list_30 : decode cX12_list 30 = .ok (.iload_n 1, 1) := by decide +kernel
theorem dX12_list_31 : decode cX12_list 31 = .ok (.iload_n 2, 1) := by decide +kernel
theorem dX12_list_32 : decode cX12_list 32 = .ok (.iastore, 1) := by decide +kernel
theorem dX12_list_33 : decode cX12_list 33 = .ok (.iconst 0, 1) := by decide +kernel
theorem dX12_list_34 : decode cX12_list 34 = .ok (.istore_n 3, 1) := by decide +kernel
theorem dX12_list_35 : decode cX12_list 35 = .ok (.iload_n 3, 1) := by decide +kernel
theorem dX12_list_36 : decode cX12_list 36 = .ok (.bipush 12, 2) := by decide +kernel
theorem dX12_list_38 : decode cX12_list 38 = .ok (.if_icmp .ge 21, 3) := by decide +kernel
theorem dX12_list_41 : decode cX12_list 41 = .ok (.aload_n 0, 1) := by decide +kernel
theorem dX12_list_42 : decode cX12_list 42 = .ok (.getfield 38, 3) := by decide +kernel
theorem dX12_list_45 : decode cX12_list 45 = .ok (.bipush 12, 2) := by decide +kernel
theorem dX12_list_47 : decode cX12_list 47 = .ok (.iload_n 1, 1) := by decide +kernel
theorem dX12_list_48 : decode cX12_list 48 = .ok (.imul, 1) := by decide +kernel
theorem dX12_list_49 : decode cX12_list 49 = .ok (.iload_n 3, 1) := by decide +kernel
theorem dX12_list_50 : decode cX12_list 50 = .ok (.iadd, 1) := by decide +kernel
theorem dX12_list_51 : decode cX12_list 51 = .ok (.lconst 0, 1) := by decide +kernel
theorem dX12_list_52 : decode cX12_list 52 = .ok (.lastore, 1) := by decide +kernel
theorem dX12_list_53 : decode cX12_list 53 = .ok (.iinc 3 1, 3) := by decide +kernel
theorem dX12_list_56 : decode cX12_list 56 = .ok (.goto (-21), 3) := by decide +kernel
theorem dX12_list_59 : decode cX12_list 59 = .ok (.iconst 1, 1) := by decide +kernel
theorem dX12_list_60 : decode cX12_list 60 = .ok (.ireturn, 1) := by decide +kernel
theorem dX12_looks_0 : decode cX12_looks 0 = .ok (.aload_n 0, 1) := by decide +kernel
theorem dX12_looks_1 : decode cX12_looks 1 = .ok (.iconst 0, 1) := by decide +kernel
theorem dX12_looks_2 : decode cX12_looks 2 = .ok (.putfield 174, 3) := by decide +kernel
theorem dX12_looks_5 : decode cX12_looks 5 = .ok (.aload_n 0, 1) := by decide +kernel
theorem dX12_looks_6 : decode cX12_looks 6 = .ok (.iload_n 3, 1) := by decide +kernel
theorem dX12_looks_7 : decode cX12_looks 7 = .ok (.putfield 177, 3) := by decide +kernel
theorem dX12_looks_10 : decode cX12_looks 10 = .ok (.aload_n 0, 1) := by decide +kernel
theorem dX12_looks_11 : decode cX12_looks 11 = .ok (.bipush (-5), 2) := by decide +kernel
theorem dX12_looks_13 : decode cX12_looks 13 = .ok (.putfield 180, 3) := by decide +kernel
theorem dX12_looks_16 : decode cX12_looks 16 = .ok (.iconst 1, 1) := by decide +kernel
theorem dX12_looks_17 : decode cX12_looks 17 = .ok (.istore 4, 2) := by decide +kernel
theorem dX12_looks_19 : decode cX12_looks 19 = .ok (.iconst 1, 1) := by decide +kernel
theorem dX12_looks_20 : decode cX12_looks 20 = .ok (.istore 5, 2) := by decide +kernel
theorem dX12_looks_22 : decode cX12_looks 22 = .ok (.iload 5, 2) := by decide +kernel
theorem dX12_looks_24 : decode cX12_looks 24 = .ok (.aload_n 0, 1) := by decide +kernel
theorem dX12_looks_25 : decode cX12_looks 25 = .ok (.getfield 23, 3) := by decide +kernel
theorem dX12_looks_28 : decode cX12_looks 28 = .ok (.iload_n 1, 1) := by decide +kernel
theorem dX12_looks_29 : decode cX12_looks 29 = .ok (.iaload, 1) := by decide +kernel
theorem dX12_looks_30 : decode cX12_looks 30 = .ok (.if_icmp .ge 16, 3) := by decide +kernel
theorem dX12_looks_33 : decode cX12_looks 33 = .ok (.iload 4, 2) := by decide +kernel
theorem dX12_looks_35 : decode cX12_looks 35 = .ok (.bipush 10, 2) := by decide +kernel
theorem dX12_looks_37 : decode cX12_looks 37 = .ok (.imul, 1) := by decide +kernel
theorem dX12_looks_38 : decode cX12_looks 38 = .ok (.istore 4, 2) := by decide +kernel
theorem dX12_looks_40 : decode cX12_looks 40 = .ok (.iinc 5 1, 3) := by decide +kernel
theorem dX12_looks_43 : decode cX12_looks 43 = .ok (.goto (-21), 3) := by decide +kernel
theorem dX12_looks_46 : decode cX12_looks 46 = .ok (.aload_n 0, 1) := by decide +kernel
theorem dX12_looks_47 : decode cX12_looks 47 = .ok (.iload_n 1, 1) := by decide +kernel
theorem dX12_looks_48 : decode cX12_looks 48 = .ok (.iload_n 2, 1) := by decide +kernel
theorem dX12_looks_49 : decode cX12_looks 49 = .ok (.aload_n 0, 1) := by decide +kernel
theorem dX12_looks_50 : decode cX12_looks 50 = .ok (.getfield 23, 3) := by decide +kernel
theorem dX12_looks_53 : decode cX12_looks 53 = .ok (.iload_n 1, 1) := by decide +kernel
theorem dX12_looks_54 : decode cX12_looks 54 = .ok (.iaload, 1) := by decide +kernel
theorem dX12_looks_55 : decode cX12_looks 55 = .ok (.iconst 1, 1) := by decide +kernel
theorem dX12_looks_56 : decode cX12_looks 56 = .ok (.isub, 1) := by decide +kernel
theorem dX12_looks_57 : decode cX12_looks 57 = .ok (.iload 4, 2) := by decide +kernel
theorem dX12_looks_59 : decode cX12_looks 59 = .ok (.iconst 0, 1) := by decide +kernel
theorem dX12_looks_60 : decode cX12_looks 60 = .ok (.invokevirtual 186, 3) := by decide +kernel
theorem dX12_looks_63 : decode cX12_looks 63 = .ok (.pop, 1) := by decide +kernel
theorem dX12_looks_64 : decode cX12_looks 64 = .ok (.return_, 1) := by decide +kernel
theorem dX12_looksToFill_0 : decode cX12_looksToFill 0 = .ok (.aload_n 0, 1) := by decide +kernel
theorem dX12_looksToFill_1 : decode cX12_looksToFill 1 = .ok (.iload_n 1, 1) := by decide +kernel
theorem dX12_looksToFill_2 : decode cX12_looksToFill 2 = .ok (.iconst 5, 1) := by decide +kernel
theorem dX12_looksToFill_3 : decode cX12_looksToFill 3 = .ok (.invokevirtual 161, 3) := by decide +kernel
theorem dX12_looksToFill_6 : decode cX12_looksToFill 6 = .ok (.aload_n 0, 1) := by decide +kernel
theorem dX12_looksToFill_7 : decode cX12_looksToFill 7 = .ok (.iconst 0, 1) := by decide +kernel
theorem dX12_looksToFill_8 : decode cX12_looksToFill 8 = .ok (.putfield 174, 3) := by decide +kernel
theorem dX12_looksToFill_11 : decode cX12_looksToFill 11 = .ok (.aload_n 0, 1) := by decide +kernel
theorem dX12_looksToFill_12 : decode cX12_looksToFill 12 = .ok (.iload_n 3, 1) := by decide +kernel
theorem dX12_looksToFill_13 : decode cX12_looksToFill 13 = .ok (.putfield 177, 3) := by decide +kernel
theorem dX12_looksToFill_16 : decode cX12_looksToFill 16 = .ok (.aload_n 0, 1) := by decide +kernel
theorem dX12_looksToFill_17 : decode cX12_looksToFill 17 = .ok (.bipush (-5), 2) := by decide +kernel
theorem dX12_looksToFill_19 : decode cX12_looksToFill 19 = .ok (.putfield 180, 3) := by decide +kernel
theorem dX12_looksToFill_22 : decode cX12_looksToFill 22 = .ok (.aload_n 0, 1) := by decide +kernel
theorem dX12_looksToFill_23 : decode cX12_looksToFill 23 = .ok (.iload_n 2, 1) := by decide +kernel
theorem dX12_looksToFill_24 : decode cX12_looksToFill 24 = .ok (.iconst (-1), 1) := by decide +kernel
theorem dX12_looksToFill_25 : decode cX12_looksToFill 25 = .ok (.invokevirtual 208, 3) := by decide +kernel
theorem dX12_looksToFill_28 : decode cX12_looksToFill 28 = .ok (.pop, 1) := by decide +kernel
theorem dX12_looksToFill_29 : decode cX12_looksToFill 29 = .ok (.return_, 1) := by decide +kernel
theorem dX12_mayStand_0 : decode cX12_mayStand 0 = .ok (.aload_n 0, 1) := by decide +kernel
theorem dX12_mayStand_1 : decode cX12_mayStand 1 = .ok (.getfield 23, 3) := by decide +kernel
theorem dX12_mayStand_4 : decode cX12_mayStand 4 = .ok (.iconst 5, 1) := by decide +kernel
theorem dX12_mayStand_5 : decode cX12_mayStand 5 = .ok (.iaload, 1) := by decide +kernel
theorem dX12_mayStand_6 : decode cX12_mayStand 6 = .ok (.istore_n 3, 1) := by decide +kernel
theorem dX12_mayStand_7 : decode cX12_mayStand 7 = .ok (.iload_n 1, 1) := by decide +kernel
theorem dX12_mayStand_8 : decode cX12_mayStand 8 = .ok (.iconst 1, 1) := by decide +kernel
theorem dX12_mayStand_9 : decode cX12_mayStand 9 = .ok (.iadd, 1) := by decide +kernel
theorem dX12_mayStand_10 : decode cX12_mayStand 10 = .ok (.istore 4, 2) := by decide +kernel
theorem dX12_mayStand_12 : decode cX12_mayStand 12 = .ok (.iload 4, 2) := by decide +kernel
theorem dX12_mayStand_14 : decode cX12_mayStand 14 = .ok (.iload_n 3, 1) := by decide +kernel
theorem dX12_mayStand_15 : decode cX12_mayStand 15 = .ok (.if_icmp .ge 35, 3) := by decide +kernel
theorem dX12_mayStand_18 : decode cX12_mayStand 18 = .ok (.aload_n 0, 1) := by decide +kernel
theorem dX12_mayStand_19 : decode cX12_mayStand 19 = .ok (.aload_n 0, 1) := by decide +kernel
theorem dX12_mayStand_20 : decode cX12_mayStand 20 = .ok (.iconst 5, 1) := by decide +kernel
theorem dX12_mayStand_21 : decode cX12_mayStand 21 = .ok (.iload_n 1, 1) := by decide +kernel
theorem dX12_mayStand_22 : decode cX12_mayStand 22 = .ok (.iload 4, 2) := by decide +kernel
theorem dX12_mayStand_24 : decode cX12_mayStand 24 = .ok (.invokevirtual 158, 3) := by decide +kernel
theorem dX12_mayStand_27 : decode cX12_mayStand 27 = .ok (.aload_n 0, 1) := by decide +kernel
theorem dX12_mayStand_28 : decode cX12_mayStand 28 = .ok (.iconst 5, 1) := by decide +kernel
theorem dX12_mayStand_29 : decode cX12_mayStand 29 = .ok (.iload 4, 2) := by decide +kernel
theorem dX12_mayStand_31 : decode cX12_mayStand 31 = .ok (.iload_n 3, 1) := by decide +kernel
theorem dX12_mayStand_32 : decode cX12_mayStand 32 = .ok (.invokevirtual 158, 3) := by decide +kernel
theorem dX12_mayStand_35 : decode cX12_mayStand 35 = .ok (.iload_n 2, 1) := by decide +kernel
theorem dX12_mayStand_36 : decode cX12_mayStand 36 = .ok (.invokevirtual 105, 3) := by decide +kernel
theorem dX12_mayStand_39 : decode cX12_mayStand 39 = .ok (.ifCond .ne 5, 3) := by decide +kernel
theorem dX12_mayStand_42 : decode cX12_mayStand 42 = .ok (.iconst 0, 1) := by decide +kernel
theorem dX12_mayStand_43 : decode cX12_mayStand 43 = .ok (.ireturn, 1) := by decide +kernel
theorem dX12_mayStand_44 : decode cX12_mayStand 44 = .ok (.iinc 4 1, 3) := by decide +kernel
theorem dX12_mayStand_47 : decode cX12_mayStand 47 = .ok (.goto (-35), 3) := by decide +kernel
theorem dX12_mayStand_50 : decode cX12_mayStand 50 = .ok (.iconst 1, 1) := by decide +kernel
theorem dX12_mayStand_51 : decode cX12_mayStand 51 = .ok (.ireturn, 1) := by decide +kernel
theorem dX12_node_0 : decode cX12_node 0 = .ok (.iload_n 1, 1) := by decide +kernel
theorem dX12_node_1 : decode cX12_node 1 = .ok (.invokestatic 145, 3) := by decide +kernel
theorem dX12_node_4 : decode cX12_node 4 = .ok (.ifCond .ne 5, 3) := by decide +kernel
theorem dX12_node_7 : decode cX12_node 7 = .ok (.iconst (-1), 1) := by decide +kernel
theorem dX12_node_8 : decode cX12_node 8 = .ok (.ireturn, 1) := by decide +kernel
theorem dX12_node_9 : decode cX12_node 9 = .ok (.aload_n 0, 1) := by decide +kernel
theorem dX12_node_10 : decode cX12_node 10 = .ok (.getfield 23, 3) := by decide +kernel
theorem dX12_node_13 : decode cX12_node 13 = .ok (.iload_n 1, 1) := by decide +kernel
theorem dX12_node_14 : decode cX12_node 14 = .ok (.iaload, 1) := by decide +kernel
theorem dX12_node_15 : decode cX12_node 15 = .ok (.bipush 6, 2) := by decide +kernel
theorem dX12_node_17 : decode cX12_node 17 = .ok (.if_icmp .ne 6, 3) := by decide +kernel
theorem dX12_node_20 : decode cX12_node 20 = .ok (.bipush (-4), 2) := by decide +kernel
theorem dX12_node_22 : decode cX12_node 22 = .ok (.ireturn, 1) := by decide +kernel
theorem dX12_node_23 : decode cX12_node 23 = .ok (.aload_n 0, 1) := by decide +kernel
theorem dX12_node_24 : decode cX12_node 24 = .ok (.iload_n 1, 1) := by decide +kernel
theorem dX12_node_25 : decode cX12_node 25 = .ok (.iload_n 2, 1) := by decide +kernel
theorem dX12_node_26 : decode cX12_node 26 = .ok (.invokevirtual 148, 3) := by decide +kernel
theorem dX12_node_29 : decode cX12_node 29 = .ok (.ifCond .ne 6, 3) := by decide +kernel
theorem dX12_node_32 : decode cX12_node 32 = .ok (.bipush (-2), 2) := by decide +kernel
theorem dX12_node_34 : decode cX12_node 34 = .ok (.ireturn, 1) := by decide +kernel
theorem dX12_node_35 : decode cX12_node 35 = .ok (.aload_n 0, 1) := by decide +kernel
theorem dX12_node_36 : decode cX12_node 36 = .ok (.iload_n 1, 1) := by decide +kernel
theorem dX12_node_37 : decode cX12_node 37 = .ok (.iload_n 2, 1) := by decide +kernel
theorem dX12_node_38 : decode cX12_node 38 = .ok (.invokevirtual 151, 3) := by decide +kernel
theorem dX12_node_41 : decode cX12_node 41 = .ok (.aload_n 0, 1) := by decide +kernel
theorem dX12_node_42 : decode cX12_node 42 = .ok (.getfield 23, 3) := by decide +kernel
theorem dX12_node_45 : decode cX12_node 45 = .ok (.iload_n 1, 1) := by decide +kernel
theorem dX12_node_46 : decode cX12_node 46 = .ok (.iaload, 1) := by decide +kernel
theorem dX12_node_47 : decode cX12_node 47 = .ok (.iconst 1, 1) := by decide +kernel
theorem dX12_node_48 : decode cX12_node 48 = .ok (.isub, 1) := by decide +kernel
theorem dX12_node_49 : decode cX12_node 49 = .ok (.ireturn, 1) := by decide +kernel
theorem dX12_occurs_0 : decode cX12_occurs 0 = .ok (.iload_n 1, 1) := by decide +kernel
theorem dX12_occurs_1 : decode cX12_occurs 1 = .ok (.invokestatic 145, 3) := by decide +kernel
theorem dX12_occurs_4 : decode cX12_occurs 4 = .ok (.ifCond .eq 15, 3) := by decide +kernel
theorem dX12_occurs_7 : decode cX12_occurs 7 = .ok (.iload_n 2, 1) := by decide +kernel
theorem dX12_occurs_8 : decode cX12_occurs 8 = .ok (.invokestatic 145, 3) := by decide +kernel
theorem dX12_occurs_11 : decode cX12_occurs 11 = .ok (.ifCond .eq 8, 3) := by decide +kernel
theorem dX12_occurs_14 : decode cX12_occurs 14 = .ok (.iload_n 3, 1) := by decide +kernel
theorem dX12_occurs_15 : decode cX12_occurs 15 = .ok (.iconst (-1), 1) := by decide +kernel
theorem dX12_occurs_16 : decode cX12_occurs 16 = .ok (.if_icmp .ge 5, 3) := by decide +kernel
theorem dX12_occurs_19 : decode cX12_occurs 19 = .ok (.iconst (-1), 1) := by decide +kernel
theorem dX12_occurs_20 : decode cX12_occurs 20 = .ok (.ireturn, 1) := by decide +kernel
theorem dX12_occurs_21 : decode cX12_occurs 21 = .ok (.aload_n 0, 1) := by decide +kernel
theorem dX12_occurs_22 : decode cX12_occurs 22 = .ok (.iload_n 1, 1) := by decide +kernel
theorem dX12_occurs_23 : decode cX12_occurs 23 = .ok (.iload_n 2, 1) := by decide +kernel
theorem dX12_occurs_24 : decode cX12_occurs 24 = .ok (.iload_n 3, 1) := by decide +kernel
theorem dX12_occurs_25 : decode cX12_occurs 25 = .ok (.invokevirtual 189, 3) := by decide +kernel
theorem dX12_occurs_28 : decode cX12_occurs 28 = .ok (.iload_n 3, 1) := by decide +kernel
theorem dX12_occurs_29 : decode cX12_occurs 29 = .ok (.iconst (-1), 1) := by decide +kernel
theorem dX12_occurs_30 : decode cX12_occurs 30 = .ok (.if_icmp .ne 10, 3) := by decide +kernel
theorem dX12_occurs_33 : decode cX12_occurs 33 = .ok (.aload_n 0, 1) := by decide +kernel
theorem dX12_occurs_34 : decode cX12_occurs 34 = .ok (.getfield 174, 3) := by decide +kernel
theorem dX12_occurs_37 : decode cX12_occurs 37 = .ok (.goto 20, 3) := by decide +kernel
theorem dX12_occurs_40 : decode cX12_occurs 40 = .ok (.aload_n 0, 1) := by decide +kernel
theorem dX12_occurs_41 : decode cX12_occurs 41 = .ok (.getfield 180, 3) := by decide +kernel
theorem dX12_occurs_44 : decode cX12_occurs 44 = .ok (.bipush (-5), 2) := by decide +kernel
theorem dX12_occurs_46 : decode cX12_occurs 46 = .ok (.if_icmp .ne 7, 3) := by decide +kernel
theorem dX12_occurs_49 : decode cX12_occurs 49 = .ok (.iconst (-1), 1) := by decide +kernel
theorem dX12_occurs_50 : decode cX12_occurs 50 = .ok (.goto 7, 3) := by decide +kernel
theorem dX12_occurs_53 : decode cX12_occurs 53 = .ok (.aload_n 0, 1) := by decide +kernel
theorem dX12_occurs_54 : decode cX12_occurs 54 = .ok (.getfield 180, 3) := by decide +kernel
theorem dX12_occurs_57 : decode cX12_occurs 57 = .ok (.ireturn, 1) := by decide +kernel
theorem dX12_over_0 : decode cX12_over 0 = .ok (.aload_n 0, 1) := by decide +kernel
theorem dX12_over_1 : decode cX12_over 1 = .ok (.iload_n 1, 1) := by decide +kernel
theorem dX12_over_2 : decode cX12_over 2 = .ok (.invokevirtual 91, 3) := by decide +kernel
theorem dX12_over_5 : decode cX12_over 5 = .ok (.ifCond .eq 21, 3) := by decide +kernel
theorem dX12_over_8 : decode cX12_over 8 = .ok (.aload_n 0, 1) := by decide +kernel
theorem dX12_over_9 : decode cX12_over 9 = .ok (.iload_n 2, 1) := by decide +kernel
theorem dX12_over_10 : decode cX12_over 10 = .ok (.invokevirtual 91, 3) := by decide +kernel
theorem dX12_over_13 : decode cX12_over 13 = .ok (.ifCond .eq 13, 3) := by decide +kernel
theorem dX12_over_16 : decode cX12_over 16 = .ok (.iload_n 3, 1) := by decide +kernel
theorem dX12_over_17 : decode cX12_over 17 = .ok (.i2l, 1) := by decide +kernel
theorem dX12_over_18 : decode cX12_over 18 = .ok (.lconst 0, 1) := by decide +kernel
theorem dX12_over_19 : decode cX12_over 19 = .ok (.lconst 1, 1) := by decide +kernel
theorem dX12_over_20 : decode cX12_over 20 = .ok (.invokestatic 70, 3) := by decide +kernel
theorem dX12_over_23 : decode cX12_over 23 = .ok (.ifCond .ne 6, 3) := by decide +kernel
theorem dX12_over_26 : decode cX12_over 26 = .ok (.bipush (-2), 2) := by decide +kernel
theorem dX12_over_28 : decode cX12_over 28 = .ok (.ireturn, 1) := by decide +kernel
theorem dX12_over_29 : decode cX12_over 29 = .ok (.iconst 0, 1) := by decide +kernel
theorem dX12_over_30 : decode cX12_over 30 = .ok (.istore 4, 2) := by decide +kernel
theorem dX12_over_32 : decode cX12_over 32 = .ok (.iconst 0, 1) := by decide +kernel
theorem dX12_over_33 : decode cX12_over 33 = .ok (.istore 5, 2) := by decide +kernel
theorem dX12_over_35 : decode cX12_over 35 = .ok (.iload 5, 2) := by decide +kernel
theorem dX12_over_37 : decode cX12_over 37 = .ok (.aload_n 0, 1) := by decide +kernel
theorem dX12_over_38 : decode cX12_over 38 = .ok (.getfield 9, 3) := by decide +kernel
theorem dX12_over_41 : decode cX12_over 41 = .ok (.if_icmp .ge 39, 3) := by decide +kernel
theorem dX12_over_44 : decode cX12_over 44 = .ok (.iload 4, 2) := by decide +kernel
theorem dX12_over_46 : decode cX12_over 46 = .ok (.aload_n 0, 1) := by decide +kernel
theorem dX12_over_47 : decode cX12_over 47 = .ok (.iconst 1, 1) := by decide +kernel
theorem dX12_over_48 : decode cX12_over 48 = .ok (.iload 5, 2) := by decide +kernel
theorem dX12_over_50 : decode cX12_over 50 = .ok (.ishl, 1) := by decide +kernel
theorem dX12_over_51 : decode cX12_over 51 = .ok (.iload_n 2, 1) := by decide +kernel
theorem dX12_over_52 : decode cX12_over 52 = .ok (.iload_n 3, 1) := by decide +kernel
theorem dX12_over_53 : decode cX12_over 53 = .ok (.invokevirtual 113, 3) := by decide +kernel
theorem dX12_over_56 : decode cX12_over 56 = .ok (.iload_n 1, 1) := by decide +kernel
theorem dX12_over_57 : decode cX12_over 57 = .ok (.iconst (-1), 1) := by decide +kernel
theorem dX12_over_58 : decode cX12_over 58 = .ok (.ixor, 1) := by decide +kernel
theorem dX12_over_59 : decode cX12_over 59 = .ok (.iand, 1) := by decide +kernel
theorem dX12_over_60 : decode cX12_over 60 = .ok (.ifCond .ne 10, 3) := by decide +kernel
theorem dX12_over_63 : decode cX12_over 63 = .ok (.iconst 1, 1) := by decide +kernel
theorem dX12_over_64 : decode cX12_over 64 = .ok (.iload 5, 2) := by decide +kernel
theorem dX12_over_66 : decode cX12_over 66 = .ok (.ishl, 1) := by decide +kernel
theorem dX12_over_67 : decode cX12_over 67 = .ok (.goto 4, 3) := by decide +kernel
theorem dX12_over_70 : decode cX12_over 70 = .ok (.iconst 0, 1) := by decide +kernel
theorem dX12_over_71 : decode cX12_over 71 = .ok (.ior, 1) := by decide +kernel
theorem dX12_over_72 : decode cX12_over 72 = .ok (.istore 4, 2) := by decide +kernel
theorem dX12_over_74 : decode cX12_over 74 = .ok (.iinc 5 1, 3) := by decide +kernel
theorem dX12_over_77 : decode cX12_over 77 = .ok (.goto (-42), 3) := by decide +kernel
theorem dX12_over_80 : decode cX12_over 80 = .ok (.iload 4, 2) := by decide +kernel
theorem dX12_over_82 : decode cX12_over 82 = .ok (.ireturn, 1) := by decide +kernel
theorem dX12_pair_0 : decode cX12_pair 0 = .ok (.aload_n 0, 1) := by decide +kernel
theorem dX12_pair_1 : decode cX12_pair 1 = .ok (.iload_n 1, 1) := by decide +kernel
theorem dX12_pair_2 : decode cX12_pair 2 = .ok (.invokevirtual 83, 3) := by decide +kernel
theorem dX12_pair_5 : decode cX12_pair 5 = .ok (.ifCond .eq 11, 3) := by decide +kernel
theorem dX12_pair_8 : decode cX12_pair 8 = .ok (.aload_n 0, 1) := by decide +kernel
theorem dX12_pair_9 : decode cX12_pair 9 = .ok (.iload_n 2, 1) := by decide +kernel
theorem dX12_pair_10 : decode cX12_pair 10 = .ok (.invokevirtual 83, 3) := by decide +kernel
theorem dX12_pair_13 : decode cX12_pair 13 = .ok (.ifCond .ne 5, 3) := by decide +kernel
theorem dX12_pair_16 : decode cX12_pair 16 = .ok (.iconst (-1), 1) := by decide +kernel
theorem dX12_pair_17 : decode cX12_pair 17 = .ok (.ireturn, 1) := by decide +kernel
theorem dX12_pair_18 : decode cX12_pair 18 = .ok (.aload_n 0, 1) := by decide +kernel
theorem dX12_pair_19 : decode cX12_pair 19 = .ok (.getfield 15, 3) := by decide +kernel
theorem dX12_pair_22 : decode cX12_pair 22 = .ok (.iload_n 1, 1) := by decide +kernel
theorem dX12_pair_23 : decode cX12_pair 23 = .ok (.iaload, 1) := by decide +kernel
theorem dX12_pair_24 : decode cX12_pair 24 = .ok (.istore_n 3, 1) := by decide +kernel
theorem dX12_pair_25 : decode cX12_pair 25 = .ok (.aload_n 0, 1) := by decide +kernel
theorem dX12_pair_26 : decode cX12_pair 26 = .ok (.getfield 15, 3) := by decide +kernel
theorem dX12_pair_29 : decode cX12_pair 29 = .ok (.iload_n 2, 1) := by decide +kernel
theorem dX12_pair_30 : decode cX12_pair 30 = .ok (.iaload, 1) := by decide +kernel
theorem dX12_pair_31 : decode cX12_pair 31 = .ok (.istore 4, 2) := by decide +kernel
theorem dX12_pair_33 : decode cX12_pair 33 = .ok (.aload_n 0, 1) := by decide +kernel
theorem dX12_pair_34 : decode cX12_pair 34 = .ok (.getfield 15, 3) := by decide +kernel
theorem dX12_pair_37 : decode cX12_pair 37 = .ok (.iload_n 3, 1) := by decide +kernel
theorem dX12_pair_38 : decode cX12_pair 38 = .ok (.iload_n 3, 1) := by decide +kernel
theorem dX12_pair_39 : decode cX12_pair 39 = .ok (.iastore, 1) := by decide +kernel
theorem dX12_pair_40 : decode cX12_pair 40 = .ok (.aload_n 0, 1) := by decide +kernel
theorem dX12_pair_41 : decode cX12_pair 41 = .ok (.getfield 15, 3) := by decide +kernel
theorem dX12_pair_44 : decode cX12_pair 44 = .ok (.iload 4, 2) := by decide +kernel
theorem dX12_pair_46 : decode cX12_pair 46 = .ok (.iload 4, 2) := by decide +kernel
theorem dX12_pair_48 : decode cX12_pair 48 = .ok (.iastore, 1) := by decide +kernel
theorem dX12_pair_49 : decode cX12_pair 49 = .ok (.aload_n 0, 1) := by decide +kernel
theorem dX12_pair_50 : decode cX12_pair 50 = .ok (.getfield 15, 3) := by decide +kernel
theorem dX12_pair_53 : decode cX12_pair 53 = .ok (.iload_n 1, 1) := by decide +kernel
theorem dX12_pair_54 : decode cX12_pair 54 = .ok (.iload_n 2, 1) := by decide +kernel
theorem dX12_pair_55 : decode cX12_pair 55 = .ok (.iastore, 1) := by decide +kernel
theorem dX12_pair_56 : decode cX12_pair 56 = .ok (.aload_n 0, 1) := by decide +kernel
theorem dX12_pair_57 : decode cX12_pair 57 = .ok (.getfield 15, 3) := by decide +kernel
theorem dX12_pair_60 : decode cX12_pair 60 = .ok (.iload_n 2, 1) := by decide +kernel
theorem dX12_pair_61 : decode cX12_pair 61 = .ok (.iload_n 1, 1) := by decide +kernel
theorem dX12_pair_62 : decode cX12_pair 62 = .ok (.iastore, 1) := by decide +kernel
theorem dX12_pair_63 : decode cX12_pair 63 = .ok (.aload_n 0, 1) := by decide +kernel
theorem dX12_pair_64 : decode cX12_pair 64 = .ok (.invokevirtual 67, 3) := by decide +kernel
theorem dX12_pair_67 : decode cX12_pair 67 = .ok (.iconst 0, 1) := by decide +kernel
theorem dX12_pair_68 : decode cX12_pair 68 = .ok (.istore 5, 2) := by decide +kernel
theorem dX12_pair_70 : decode cX12_pair 70 = .ok (.iconst 0, 1) := by decide +kernel
theorem dX12_pair_71 : decode cX12_pair 71 = .ok (.istore 6, 2) := by decide +kernel
theorem dX12_pair_73 : decode cX12_pair 73 = .ok (.iload 6, 2) := by decide +kernel
theorem dX12_pair_75 : decode cX12_pair 75 = .ok (.aload_n 0, 1) := by decide +kernel
theorem dX12_pair_76 : decode cX12_pair 76 = .ok (.getfield 9, 3) := by decide +kernel
theorem dX12_pair_79 : decode cX12_pair 79 = .ok (.if_icmp .ge 31, 3) := by decide +kernel
theorem dX12_pair_82 : decode cX12_pair 82 = .ok (.iload 5, 2) := by decide +kernel
theorem dX12_pair_84 : decode cX12_pair 84 = .ok (.aload_n 0, 1) := by decide +kernel
theorem dX12_pair_85 : decode cX12_pair 85 = .ok (.getfield 15, 3) := by decide +kernel
theorem dX12_pair_88 : decode cX12_pair 88 = .ok (.iload 6, 2) := by decide +kernel
theorem dX12_pair_90 : decode cX12_pair 90 = .ok (.iaload, 1) := by decide +kernel
theorem dX12_pair_91 : decode cX12_pair 91 = .ok (.iload 6, 2) := by decide +kernel
theorem dX12_pair_93 : decode cX12_pair 93 = .ok (.if_icmp .ne 7, 3) := by decide +kernel
theorem dX12_pair_96 : decode cX12_pair 96 = .ok (.iconst 0, 1) := by decide +kernel
theorem dX12_pair_97 : decode cX12_pair 97 = .ok (.goto 4, 3) := by decide +kernel
theorem dX12_pair_100 : decode cX12_pair 100 = .ok (.iconst 1, 1) := by decide +kernel
theorem dX12_pair_101 : decode cX12_pair 101 = .ok (.iadd, 1) := by decide +kernel
theorem dX12_pair_102 : decode cX12_pair 102 = .ok (.istore 5, 2) := by decide +kernel
theorem dX12_pair_104 : decode cX12_pair 104 = .ok (.iinc 6 1, 3) := by decide +kernel
theorem dX12_pair_107 : decode cX12_pair 107 = .ok (.goto (-34), 3) := by decide +kernel
theorem dX12_pair_110 : decode cX12_pair 110 = .ok (.iload 5, 2) := by decide +kernel
theorem dX12_pair_112 : decode cX12_pair 112 = .ok (.ireturn, 1) := by decide +kernel
theorem dX12_power_0 : decode cX12_power 0 = .ok (.aload_n 0, 1) := by decide +kernel
theorem dX12_power_1 : decode cX12_power 1 = .ok (.iload_n 1, 1) := by decide +kernel
theorem dX12_power_2 : decode cX12_power 2 = .ok (.invokevirtual 91, 3) := by decide +kernel
theorem dX12_power_5 : decode cX12_power 5 = .ok (.ifCond .ne 6, 3) := by decide +kernel
theorem dX12_power_8 : decode cX12_power 8 = .ok (.bipush (-2), 2) := by decide +kernel
theorem dX12_power_10 : decode cX12_power 10 = .ok (.ireturn, 1) := by decide +kernel
theorem dX12_power_11 : decode cX12_power 11 = .ok (.iload_n 2, 1) := by decide +kernel
theorem dX12_power_12 : decode cX12_power 12 = .ok (.i2l, 1) := by decide +kernel
theorem dX12_power_13 : decode cX12_power 13 = .ok (.lconst 0, 1) := by decide +kernel
theorem dX12_power_14 : decode cX12_power 14 = .ok (.lconst 1, 1) := by decide +kernel
theorem dX12_power_15 : decode cX12_power 15 = .ok (.invokestatic 70, 3) := by decide +kernel
theorem dX12_power_18 : decode cX12_power 18 = .ok (.ifCond .ne 5, 3) := by decide +kernel
theorem dX12_power_21 : decode cX12_power 21 = .ok (.iconst (-1), 1) := by decide +kernel
theorem dX12_power_22 : decode cX12_power 22 = .ok (.ireturn, 1) := by decide +kernel
theorem dX12_power_23 : decode cX12_power 23 = .ok (.aload_n 0, 1) := by decide +kernel
theorem dX12_power_24 : decode cX12_power 24 = .ok (.iload_n 1, 1) := by decide +kernel
theorem dX12_power_25 : decode cX12_power 25 = .ok (.bipush 16, 2) := by decide +kernel
theorem dX12_power_27 : decode cX12_power 27 = .ok (.invokevirtual 117, 3) := by decide +kernel
theorem dX12_power_30 : decode cX12_power 30 = .ok (.istore_n 3, 1) := by decide +kernel
theorem dX12_power_31 : decode cX12_power 31 = .ok (.iconst 1, 1) := by decide +kernel
theorem dX12_power_32 : decode cX12_power 32 = .ok (.istore 4, 2) := by decide +kernel
theorem dX12_power_34 : decode cX12_power 34 = .ok (.aload_n 0, 1) := by decide +kernel
theorem dX12_power_35 : decode cX12_power 35 = .ok (.iload_n 3, 1) := by decide +kernel
theorem dX12_power_36 : decode cX12_power 36 = .ok (.iload_n 1, 1) := by decide +kernel
theorem dX12_power_37 : decode cX12_power 37 = .ok (.invokevirtual 109, 3) := by decide +kernel
theorem dX12_power_40 : decode cX12_power 40 = .ok (.istore 5, 2) := by decide +kernel
theorem dX12_power_42 : decode cX12_power 42 = .ok (.iload 5, 2) := by decide +kernel
theorem dX12_power_44 : decode cX12_power 44 = .ok (.iload_n 3, 1) := by decide +kernel
theorem dX12_power_45 : decode cX12_power 45 = .ok (.if_icmp .eq 18, 3) := by decide +kernel
theorem dX12_power_48 : decode cX12_power 48 = .ok (.aload_n 0, 1) := by decide +kernel
theorem dX12_power_49 : decode cX12_power 49 = .ok (.iload 5, 2) := by decide +kernel
theorem dX12_power_51 : decode cX12_power 51 = .ok (.iload_n 1, 1) := by decide +kernel
theorem dX12_power_52 : decode cX12_power 52 = .ok (.invokevirtual 109, 3) := by decide +kernel
theorem dX12_power_55 : decode cX12_power 55 = .ok (.istore 5, 2) := by decide +kernel
theorem dX12_power_57 : decode cX12_power 57 = .ok (.iinc 4 1, 3) := by decide +kernel
theorem dX12_power_60 : decode cX12_power 60 = .ok (.goto (-18), 3) := by decide +kernel
theorem dX12_power_63 : decode cX12_power 63 = .ok (.iconst 0, 1) := by decide +kernel
theorem dX12_power_64 : decode cX12_power 64 = .ok (.istore 6, 2) := by decide +kernel
theorem dX12_power_66 : decode cX12_power 66 = .ok (.aload_n 0, 1) := by decide +kernel
theorem dX12_power_67 : decode cX12_power 67 = .ok (.iload_n 1, 1) := by decide +kernel
theorem dX12_power_68 : decode cX12_power 68 = .ok (.iload 6, 2) := by decide +kernel
theorem dX12_power_70 : decode cX12_power 70 = .ok (.invokevirtual 117, 3) := by decide +kernel
theorem dX12_power_73 : decode cX12_power 73 = .ok (.aload_n 0, 1) := by decide +kernel
theorem dX12_power_74 : decode cX12_power 74 = .ok (.iload_n 1, 1) := by decide +kernel
theorem dX12_power_75 : decode cX12_power 75 = .ok (.iload 6, 2) := by decide +kernel
theorem dX12_power_77 : decode cX12_power 77 = .ok (.iload 4, 2) := by decide +kernel
theorem dX12_power_79 : decode cX12_power 79 = .ok (.iadd, 1) := by decide +kernel
theorem dX12_power_80 : decode cX12_power 80 = .ok (.invokevirtual 117, 3) := by decide +kernel
theorem dX12_power_83 : decode cX12_power 83 = .ok (.if_icmp .eq 9, 3) := by decide +kernel
theorem dX12_power_86 : decode cX12_power 86 = .ok (.iinc 6 1, 3) := by decide +kernel
theorem dX12_power_89 : decode cX12_power 89 = .ok (.goto (-23), 3) := by decide +kernel
theorem dX12_power_92 : decode cX12_power 92 = .ok (.iload_n 2, 1) := by decide +kernel
theorem dX12_power_93 : decode cX12_power 93 = .ok (.ifCond .ne 8, 3) := by decide +kernel
theorem dX12_power_96 : decode cX12_power 96 = .ok (.iload 6, 2) := by decide +kernel
theorem dX12_power_98 : decode cX12_power 98 = .ok (.goto 5, 3) := by decide +kernel
theorem dX12_power_101 : decode cX12_power 101 = .ok (.iload 4, 2) := by decide +kernel
theorem dX12_power_103 : decode cX12_power 103 = .ok (.ireturn, 1) := by decide +kernel
theorem dX12_powerOf_0 : decode cX12_powerOf 0 = .ok (.iload_n 1, 1) := by decide +kernel
theorem dX12_powerOf_1 : decode cX12_powerOf 1 = .ok (.istore_n 3, 1) := by decide +kernel
theorem dX12_powerOf_2 : decode cX12_powerOf 2 = .ok (.iconst 0, 1) := by decide +kernel
theorem dX12_powerOf_3 : decode cX12_powerOf 3 = .ok (.istore 4, 2) := by decide +kernel
theorem dX12_powerOf_5 : decode cX12_powerOf 5 = .ok (.iload 4, 2) := by decide +kernel
theorem dX12_powerOf_7 : decode cX12_powerOf 7 = .ok (.iload_n 2, 1) := by decide +kernel
theorem dX12_powerOf_8 : decode cX12_powerOf 8 = .ok (.if_icmp .ge 16, 3) := by decide +kernel
theorem dX12_powerOf_11 : decode cX12_powerOf 11 = .ok (.aload_n 0, 1) := by decide +kernel
theorem dX12_powerOf_12 : decode cX12_powerOf 12 = .ok (.iload_n 3, 1) := by decide +kernel
theorem dX12_powerOf_13 : decode cX12_powerOf 13 = .ok (.iload_n 1, 1) := by decide +kernel
theorem dX12_powerOf_14 : decode cX12_powerOf 14 = .ok (.invokevirtual 109, 3) := by decide +kernel
theorem dX12_powerOf_17 : decode cX12_powerOf 17 = .ok (.istore_n 3, 1) := by decide +kernel
theorem dX12_powerOf_18 : decode cX12_powerOf 18 = .ok (.iinc 4 1, 3) := by decide +kernel
theorem dX12_powerOf_21 : decode cX12_powerOf 21 = .ok (.goto (-16), 3) := by decide +kernel
theorem dX12_powerOf_24 : decode cX12_powerOf 24 = .ok (.iload_n 3, 1) := by decide +kernel
theorem dX12_powerOf_25 : decode cX12_powerOf 25 = .ok (.ireturn, 1) := by decide +kernel
theorem dX12_put_0 : decode cX12_put 0 = .ok (.iload_n 1, 1) := by decide +kernel
theorem dX12_put_1 : decode cX12_put 1 = .ok (.invokestatic 241, 3) := by decide +kernel
theorem dX12_put_4 : decode cX12_put 4 = .ok (.ifCond .ne 5, 3) := by decide +kernel
theorem dX12_put_7 : decode cX12_put 7 = .ok (.iconst (-1), 1) := by decide +kernel
theorem dX12_put_8 : decode cX12_put 8 = .ok (.ireturn, 1) := by decide +kernel
theorem dX12_put_9 : decode cX12_put 9 = .ok (.aload_n 0, 1) := by decide +kernel
theorem dX12_put_10 : decode cX12_put 10 = .ok (.getfield 35, 3) := by decide +kernel
theorem dX12_put_13 : decode cX12_put 13 = .ok (.iload_n 1, 1) := by decide +kernel
theorem dX12_put_14 : decode cX12_put 14 = .ok (.iaload, 1) := by decide +kernel
theorem dX12_put_15 : decode cX12_put 15 = .ok (.iconst (-1), 1) := by decide +kernel
theorem dX12_put_16 : decode cX12_put 16 = .ok (.if_icmp .ne 6, 3) := by decide +kernel
theorem dX12_put_19 : decode cX12_put 19 = .ok (.bipush (-11), 2) := by decide +kernel
theorem dX12_put_21 : decode cX12_put 21 = .ok (.ireturn, 1) := by decide +kernel
theorem dX12_put_22 : decode cX12_put 22 = .ok (.iload_n 2, 1) := by decide +kernel
theorem dX12_put_23 : decode cX12_put 23 = .ok (.i2l, 1) := by decide +kernel
theorem dX12_put_24 : decode cX12_put 24 = .ok (.lconst 0, 1) := by decide +kernel
theorem dX12_put_25 : decode cX12_put 25 = .ok (.aload_n 0, 1) := by decide +kernel
theorem dX12_put_26 : decode cX12_put 26 = .ok (.getfield 35, 3) := by decide +kernel
theorem dX12_put_29 : decode cX12_put 29 = .ok (.iload_n 1, 1) := by decide +kernel
theorem dX12_put_30 : decode cX12_put 30 = .ok (.iaload, 1) := by decide +kernel
theorem dX12_put_31 : decode cX12_put 31 = .ok (.iconst 1, 1) := by decide +kernel
theorem dX12_put_32 : decode cX12_put 32 = .ok (.isub, 1) := by decide +kernel
theorem dX12_put_33 : decode cX12_put 33 = .ok (.i2l, 1) := by decide +kernel
theorem dX12_put_34 : decode cX12_put 34 = .ok (.invokestatic 70, 3) := by decide +kernel
theorem dX12_put_37 : decode cX12_put 37 = .ok (.ifCond .ne 6, 3) := by decide +kernel
theorem dX12_put_40 : decode cX12_put 40 = .ok (.bipush (-13), 2) := by decide +kernel
theorem dX12_put_42 : decode cX12_put 42 = .ok (.ireturn, 1) := by decide +kernel
theorem dX12_put_43 : decode cX12_put 43 = .ok (.aload_n 0, 1) := by decide +kernel
theorem dX12_put_44 : decode cX12_put 44 = .ok (.getfield 38, 3) := by decide +kernel
theorem dX12_put_47 : decode cX12_put 47 = .ok (.bipush 12, 2) := by decide +kernel
theorem dX12_put_49 : decode cX12_put 49 = .ok (.iload_n 1, 1) := by decide +kernel
theorem dX12_put_50 : decode cX12_put 50 = .ok (.imul, 1) := by decide +kernel
theorem dX12_put_51 : decode cX12_put 51 = .ok (.iload_n 2, 1) := by decide +kernel
theorem dX12_put_52 : decode cX12_put 52 = .ok (.iadd, 1) := by decide +kernel
theorem dX12_put_53 : decode cX12_put 53 = .ok (.lload_n 3, 1) := by decide +kernel
theorem dX12_put_54 : decode cX12_put 54 = .ok (.lastore, 1) := by decide +kernel
theorem dX12_put_55 : decode cX12_put 55 = .ok (.iconst 1, 1) := by decide +kernel
theorem dX12_put_56 : decode cX12_put 56 = .ok (.ireturn, 1) := by decide +kernel
theorem dX12_read_0 : decode cX12_read 0 = .ok (.aload_n 0, 1) := by decide +kernel
theorem dX12_read_1 : decode cX12_read 1 = .ok (.aload_n 0, 1) := by decide +kernel
theorem dX12_read_2 : decode cX12_read 2 = .ok (.getfield 261, 3) := by decide +kernel
theorem dX12_read_5 : decode cX12_read 5 = .ok (.putfield 267, 3) := by decide +kernel
theorem dX12_read_8 : decode cX12_read 8 = .ok (.aload_n 0, 1) := by decide +kernel
theorem dX12_read_9 : decode cX12_read 9 = .ok (.iconst 0, 1) := by decide +kernel
theorem dX12_read_10 : decode cX12_read 10 = .ok (.putfield 261, 3) := by decide +kernel
theorem dX12_read_13 : decode cX12_read 13 = .ok (.aload_n 0, 1) := by decide +kernel
theorem dX12_read_14 : decode cX12_read 14 = .ok (.iconst 0, 1) := by decide +kernel
theorem dX12_read_15 : decode cX12_read 15 = .ok (.putfield 264, 3) := by decide +kernel
theorem dX12_read_18 : decode cX12_read 18 = .ok (.iconst 1, 1) := by decide +kernel
theorem dX12_read_19 : decode cX12_read 19 = .ok (.istore_n 1, 1) := by decide +kernel
theorem dX12_read_20 : decode cX12_read 20 = .ok (.iload_n 1, 1) := by decide +kernel
theorem dX12_read_21 : decode cX12_read 21 = .ok (.ifCond .eq 49, 3) := by decide +kernel
theorem dX12_read_24 : decode cX12_read 24 = .ok (.aload_n 0, 1) := by decide +kernel
theorem dX12_read_25 : decode cX12_read 25 = .ok (.invokevirtual 284, 3) := by decide +kernel
theorem dX12_read_28 : decode cX12_read 28 = .ok (.iconst (-1), 1) := by decide +kernel
theorem dX12_read_29 : decode cX12_read 29 = .ok (.if_icmp .ne 11, 3) := by decide +kernel
theorem dX12_read_32 : decode cX12_read 32 = .ok (.bipush (-100), 2) := by decide +kernel
theorem dX12_read_34 : decode cX12_read 34 = .ok (.aload_n 0, 1) := by decide +kernel
theorem dX12_read_35 : decode cX12_read 35 = .ok (.getfield 264, 3) := by decide +kernel
theorem dX12_read_38 : decode cX12_read 38 = .ok (.isub, 1) := by decide +kernel
theorem dX12_read_39 : decode cX12_read 39 = .ok (.ireturn, 1) := by decide +kernel
theorem dX12_read_40 : decode cX12_read 40 = .ok (.aload_n 0, 1) := by decide +kernel
theorem dX12_read_41 : decode cX12_read 41 = .ok (.bipush 59, 2) := by decide +kernel
theorem dX12_read_43 : decode cX12_read 43 = .ok (.bipush 59, 2) := by decide +kernel
theorem dX12_read_45 : decode cX12_read 45 = .ok (.invokevirtual 270, 3) := by decide +kernel
theorem dX12_read_48 : decode cX12_read 48 = .ok (.istore_n 1, 1) := by decide +kernel
theorem dX12_read_49 : decode cX12_read 49 = .ok (.aload_n 0, 1) := by decide +kernel
theorem dX12_read_50 : decode cX12_read 50 = .ok (.dup, 1) := by decide +kernel
theorem dX12_read_51 : decode cX12_read 51 = .ok (.getfield 264, 3) := by decide +kernel
theorem dX12_read_54 : decode cX12_read 54 = .ok (.iload_n 1, 1) := by decide +kernel
theorem dX12_read_55 : decode cX12_read 55 = .ok (.ifCond .eq 7, 3) := by decide +kernel
theorem dX12_read_58 : decode cX12_read 58 = .ok (.iconst 1, 1) := by decide +kernel
theorem dX12_read_59 : decode cX12_read 59 = .ok (.goto 4, 3) := by decide +kernel
theorem dX12_read_62 : decode cX12_read 62 = .ok (.iconst 0, 1) := by decide +kernel
theorem dX12_read_63 : decode cX12_read 63 = .ok (.iadd, 1) := by decide +kernel
theorem dX12_read_64 : decode cX12_read 64 = .ok (.putfield 264, 3) := by decide +kernel
theorem dX12_read_67 : decode cX12_read 67 = .ok (.goto (-47), 3) := by decide +kernel
theorem dX12_read_70 : decode cX12_read 70 = .ok (.aload_n 0, 1) := by decide +kernel
theorem dX12_read_71 : decode cX12_read 71 = .ok (.getfield 264, 3) := by decide +kernel
theorem dX12_read_74 : decode cX12_read 74 = .ok (.aload_n 0, 1) := by decide +kernel
theorem dX12_read_75 : decode cX12_read 75 = .ok (.getfield 267, 3) := by decide +kernel
theorem dX12_read_78 : decode cX12_read 78 = .ok (.if_icmp .ge 11, 3) := by decide +kernel
theorem dX12_read_81 : decode cX12_read 81 = .ok (.bipush (-100), 2) := by decide +kernel
theorem dX12_read_83 : decode cX12_read 83 = .ok (.aload_n 0, 1) := by decide +kernel
theorem dX12_read_84 : decode cX12_read 84 = .ok (.getfield 264, 3) := by decide +kernel
theorem dX12_read_87 : decode cX12_read 87 = .ok (.isub, 1) := by decide +kernel
theorem dX12_read_88 : decode cX12_read 88 = .ok (.ireturn, 1) := by decide +kernel
theorem dX12_read_89 : decode cX12_read 89 = .ok (.aload_n 0, 1) := by decide +kernel
theorem dX12_read_90 : decode cX12_read 90 = .ok (.iconst 0, 1) := by decide +kernel
theorem dX12_read_91 : decode cX12_read 91 = .ok (.putfield 264, 3) := by decide +kernel
theorem dX12_read_94 : decode cX12_read 94 = .ok (.iconst 0, 1) := by decide +kernel
theorem dX12_read_95 : decode cX12_read 95 = .ok (.istore_n 2, 1) := by decide +kernel
theorem dX12_read_96 : decode cX12_read 96 = .ok (.aload_n 0, 1) := by decide +kernel
theorem dX12_read_97 : decode cX12_read 97 = .ok (.getfield 264, 3) := by decide +kernel
theorem dX12_read_100 : decode cX12_read 100 = .ok (.aload_n 0, 1) := by decide +kernel
theorem dX12_read_101 : decode cX12_read 101 = .ok (.getfield 267, 3) := by decide +kernel
theorem dX12_read_104 : decode cX12_read 104 = .ok (.if_icmp .ge 36, 3) := by decide +kernel
theorem dX12_read_107 : decode cX12_read 107 = .ok (.aload_n 0, 1) := by decide +kernel
theorem dX12_read_108 : decode cX12_read 108 = .ok (.aload_n 0, 1) := by decide +kernel
theorem dX12_read_109 : decode cX12_read 109 = .ok (.invokevirtual 284, 3) := by decide +kernel
theorem dX12_read_112 : decode cX12_read 112 = .ok (.invokevirtual 287, 3) := by decide +kernel
theorem dX12_read_115 : decode cX12_read 115 = .ok (.ifCond .ne 9, 3) := by decide +kernel
theorem dX12_read_118 : decode cX12_read 118 = .ok (.sipush (-300), 3) := by decide +kernel
theorem dX12_read_121 : decode cX12_read 121 = .ok (.iload_n 2, 1) := by decide +kernel
theorem dX12_read_122 : decode cX12_read 122 = .ok (.isub, 1) := by decide +kernel
theorem dX12_read_123 : decode cX12_read 123 = .ok (.ireturn, 1) := by decide +kernel
theorem dX12_read_124 : decode cX12_read 124 = .ok (.iinc 2 1, 3) := by decide +kernel
theorem dX12_read_127 : decode cX12_read 127 = .ok (.aload_n 0, 1) := by decide +kernel
theorem dX12_read_128 : decode cX12_read 128 = .ok (.dup, 1) := by decide +kernel
theorem dX12_read_129 : decode cX12_read 129 = .ok (.getfield 264, 3) := by decide +kernel
theorem dX12_read_132 : decode cX12_read 132 = .ok (.iconst 1, 1) := by decide +kernel
theorem dX12_read_133 : decode cX12_read 133 = .ok (.iadd, 1) := by decide +kernel
theorem dX12_read_134 : decode cX12_read 134 = .ok (.putfield 264, 3) := by decide +kernel
theorem dX12_read_137 : decode cX12_read 137 = .ok (.goto (-41), 3) := by decide +kernel
theorem dX12_read_140 : decode cX12_read 140 = .ok (.iload_n 2, 1) := by decide +kernel
theorem dX12_read_141 : decode cX12_read 141 = .ok (.ireturn, 1) := by decide +kernel
theorem dX12_relabel_0 : decode cX12_relabel 0 = .ok (.iload_n 1, 1) := by decide +kernel
theorem dX12_relabel_1 : decode cX12_relabel 1 = .ok (.invokestatic 145, 3) := by decide +kernel
theorem dX12_relabel_4 : decode cX12_relabel 4 = .ok (.ifCond .eq 35, 3) := by decide +kernel
theorem dX12_relabel_7 : decode cX12_relabel 7 = .ok (.aload_n 0, 1) := by decide +kernel
theorem dX12_relabel_8 : decode cX12_relabel 8 = .ok (.iload_n 1, 1) := by decide +kernel
theorem dX12_relabel_9 : decode cX12_relabel 9 = .ok (.iload_n 2, 1) := by decide +kernel
theorem dX12_relabel_10 : decode cX12_relabel 10 = .ok (.invokevirtual 155, 3) := by decide +kernel
theorem dX12_relabel_13 : decode cX12_relabel 13 = .ok (.ifCond .eq 26, 3) := by decide +kernel
theorem dX12_relabel_16 : decode cX12_relabel 16 = .ok (.aload_n 0, 1) := by decide +kernel
theorem dX12_relabel_17 : decode cX12_relabel 17 = .ok (.iload_n 1, 1) := by decide +kernel
theorem dX12_relabel_18 : decode cX12_relabel 18 = .ok (.iload_n 3, 1) := by decide +kernel
theorem dX12_relabel_19 : decode cX12_relabel 19 = .ok (.invokevirtual 155, 3) := by decide +kernel
theorem dX12_relabel_22 : decode cX12_relabel 22 = .ok (.ifCond .eq 17, 3) := by decide +kernel
theorem dX12_relabel_25 : decode cX12_relabel 25 = .ok (.iload_n 2, 1) := by decide +kernel
theorem dX12_relabel_26 : decode cX12_relabel 26 = .ok (.iload_n 3, 1) := by decide +kernel
theorem dX12_relabel_27 : decode cX12_relabel 27 = .ok (.if_icmp .eq 12, 3) := by decide +kernel
theorem dX12_relabel_30 : decode cX12_relabel 30 = .ok (.aload_n 0, 1) := by decide +kernel
theorem dX12_relabel_31 : decode cX12_relabel 31 = .ok (.iload 4, 2) := by decide +kernel
theorem dX12_relabel_33 : decode cX12_relabel 33 = .ok (.invokevirtual 83, 3) := by decide +kernel
theorem dX12_relabel_36 : decode cX12_relabel 36 = .ok (.ifCond .ne 5, 3) := by decide +kernel
theorem dX12_relabel_39 : decode cX12_relabel 39 = .ok (.iconst (-1), 1) := by decide +kernel
theorem dX12_relabel_40 : decode cX12_relabel 40 = .ok (.ireturn, 1) := by decide +kernel
theorem dX12_relabel_41 : decode cX12_relabel 41 = .ok (.aload_n 0, 1) := by decide +kernel
theorem dX12_relabel_42 : decode cX12_relabel 42 = .ok (.iload_n 1, 1) := by decide +kernel
theorem dX12_relabel_43 : decode cX12_relabel 43 = .ok (.iload_n 2, 1) := by decide +kernel
theorem dX12_relabel_44 : decode cX12_relabel 44 = .ok (.iload_n 3, 1) := by decide +kernel
theorem dX12_relabel_45 : decode cX12_relabel 45 = .ok (.invokevirtual 158, 3) := by decide +kernel
theorem dX12_relabel_48 : decode cX12_relabel 48 = .ok (.istore 5, 2) := by decide +kernel
theorem dX12_relabel_50 : decode cX12_relabel 50 = .ok (.aload_n 0, 1) := by decide +kernel
theorem dX12_relabel_51 : decode cX12_relabel 51 = .ok (.iload_n 1, 1) := by decide +kernel
theorem dX12_relabel_52 : decode cX12_relabel 52 = .ok (.iload_n 2, 1) := by decide +kernel
theorem dX12_relabel_53 : decode cX12_relabel 53 = .ok (.iload_n 3, 1) := by decide +kernel
theorem dX12_relabel_54 : decode cX12_relabel 54 = .ok (.iload 4, 2) := by decide +kernel
theorem dX12_relabel_56 : decode cX12_relabel 56 = .ok (.invokevirtual 141, 3) := by decide +kernel
theorem dX12_relabel_59 : decode cX12_relabel 59 = .ok (.iload 5, 2) := by decide +kernel
theorem dX12_relabel_61 : decode cX12_relabel 61 = .ok (.ireturn, 1) := by decide +kernel
theorem dX12_seeks_0 : decode cX12_seeks 0 = .ok (.iload_n 3, 1) := by decide +kernel
theorem dX12_seeks_1 : decode cX12_seeks 1 = .ok (.ifCond .ge 52, 3) := by decide +kernel
theorem dX12_seeks_4 : decode cX12_seeks 4 = .ok (.aload_n 0, 1) := by decide +kernel
theorem dX12_seeks_5 : decode cX12_seeks 5 = .ok (.aload_n 0, 1) := by decide +kernel
theorem dX12_seeks_6 : decode cX12_seeks 6 = .ok (.getfield 174, 3) := by decide +kernel
theorem dX12_seeks_9 : decode cX12_seeks 9 = .ok (.aload_n 0, 1) := by decide +kernel
theorem dX12_seeks_10 : decode cX12_seeks 10 = .ok (.getfield 177, 3) := by decide +kernel
theorem dX12_seeks_13 : decode cX12_seeks 13 = .ok (.if_icmp .ne 8, 3) := by decide +kernel
theorem dX12_seeks_16 : decode cX12_seeks 16 = .ok (.iload 5, 2) := by decide +kernel
theorem dX12_seeks_18 : decode cX12_seeks 18 = .ok (.goto 7, 3) := by decide +kernel
theorem dX12_seeks_21 : decode cX12_seeks 21 = .ok (.aload_n 0, 1) := by decide +kernel
theorem dX12_seeks_22 : decode cX12_seeks 22 = .ok (.getfield 180, 3) := by decide +kernel
theorem dX12_seeks_25 : decode cX12_seeks 25 = .ok (.putfield 180, 3) := by decide +kernel
theorem dX12_seeks_28 : decode cX12_seeks 28 = .ok (.aload_n 0, 1) := by decide +kernel
theorem dX12_seeks_29 : decode cX12_seeks 29 = .ok (.dup, 1) := by decide +kernel
theorem dX12_seeks_30 : decode cX12_seeks 30 = .ok (.getfield 174, 3) := by decide +kernel
theorem dX12_seeks_33 : decode cX12_seeks 33 = .ok (.iconst 1, 1) := by decide +kernel
theorem dX12_seeks_34 : decode cX12_seeks 34 = .ok (.iadd, 1) := by decide +kernel
theorem dX12_seeks_35 : decode cX12_seeks 35 = .ok (.putfield 174, 3) := by decide +kernel
theorem dX12_seeks_38 : decode cX12_seeks 38 = .ok (.aload_n 0, 1) := by decide +kernel
theorem dX12_seeks_39 : decode cX12_seeks 39 = .ok (.getfield 180, 3) := by decide +kernel
theorem dX12_seeks_42 : decode cX12_seeks 42 = .ok (.bipush (-5), 2) := by decide +kernel
theorem dX12_seeks_44 : decode cX12_seeks 44 = .ok (.if_icmp .eq 7, 3) := by decide +kernel
theorem dX12_seeks_47 : decode cX12_seeks 47 = .ok (.iconst 1, 1) := by decide +kernel
theorem dX12_seeks_48 : decode cX12_seeks 48 = .ok (.goto 4, 3) := by decide +kernel
theorem dX12_seeks_51 : decode cX12_seeks 51 = .ok (.iconst 0, 1) := by decide +kernel
theorem dX12_seeks_52 : decode cX12_seeks 52 = .ok (.ireturn, 1) := by decide +kernel
theorem dX12_seeks_53 : decode cX12_seeks 53 = .ok (.iconst 0, 1) := by decide +kernel
theorem dX12_seeks_54 : decode cX12_seeks 54 = .ok (.istore 6, 2) := by decide +kernel
theorem dX12_seeks_56 : decode cX12_seeks 56 = .ok (.iload 6, 2) := by decide +kernel
theorem dX12_seeks_58 : decode cX12_seeks 58 = .ok (.aload_n 0, 1) := by decide +kernel
theorem dX12_seeks_59 : decode cX12_seeks 59 = .ok (.getfield 23, 3) := by decide +kernel
theorem dX12_seeks_62 : decode cX12_seeks 62 = .ok (.iload_n 2, 1) := by decide +kernel
theorem dX12_seeks_63 : decode cX12_seeks 63 = .ok (.iaload, 1) := by decide +kernel
theorem dX12_seeks_64 : decode cX12_seeks 64 = .ok (.if_icmp .ge 52, 3) := by decide +kernel
theorem dX12_seeks_67 : decode cX12_seeks 67 = .ok (.aload_n 0, 1) := by decide +kernel
theorem dX12_seeks_68 : decode cX12_seeks 68 = .ok (.iload_n 1, 1) := by decide +kernel
theorem dX12_seeks_69 : decode cX12_seeks 69 = .ok (.iload_n 2, 1) := by decide +kernel
theorem dX12_seeks_70 : decode cX12_seeks 70 = .ok (.iload_n 3, 1) := by decide +kernel
theorem dX12_seeks_71 : decode cX12_seeks 71 = .ok (.iload 6, 2) := by decide +kernel
theorem dX12_seeks_73 : decode cX12_seeks 73 = .ok (.iload 5, 2) := by decide +kernel
theorem dX12_seeks_75 : decode cX12_seeks 75 = .ok (.invokevirtual 183, 3) := by decide +kernel
theorem dX12_seeks_78 : decode cX12_seeks 78 = .ok (.ifCond .eq 32, 3) := by decide +kernel
theorem dX12_seeks_81 : decode cX12_seeks 81 = .ok (.aload_n 0, 1) := by decide +kernel
theorem dX12_seeks_82 : decode cX12_seeks 82 = .ok (.iload_n 1, 1) := by decide +kernel
theorem dX12_seeks_83 : decode cX12_seeks 83 = .ok (.iload_n 2, 1) := by decide +kernel
theorem dX12_seeks_84 : decode cX12_seeks 84 = .ok (.iload_n 3, 1) := by decide +kernel
theorem dX12_seeks_85 : decode cX12_seeks 85 = .ok (.iconst 1, 1) := by decide +kernel
theorem dX12_seeks_86 : decode cX12_seeks 86 = .ok (.isub, 1) := by decide +kernel
theorem dX12_seeks_87 : decode cX12_seeks 87 = .ok (.iload 4, 2) := by decide +kernel
theorem dX12_seeks_89 : decode cX12_seeks 89 = .ok (.bipush 10, 2) := by decide +kernel
theorem dX12_seeks_91 : decode cX12_seeks 91 = .ok (.idiv, 1) := by decide +kernel
theorem dX12_seeks_92 : decode cX12_seeks 92 = .ok (.iload 5, 2) := by decide +kernel
theorem dX12_seeks_94 : decode cX12_seeks 94 = .ok (.iload 4, 2) := by decide +kernel
theorem dX12_seeks_96 : decode cX12_seeks 96 = .ok (.iload 6, 2) := by decide +kernel
theorem dX12_seeks_98 : decode cX12_seeks 98 = .ok (.iconst 1, 1) := by decide +kernel
theorem dX12_seeks_99 : decode cX12_seeks 99 = .ok (.iadd, 1) := by decide +kernel
theorem dX12_seeks_100 : decode cX12_seeks 100 = .ok (.imul, 1) := by decide +kernel
theorem dX12_seeks_101 : decode cX12_seeks 101 = .ok (.iadd, 1) := by decide +kernel
theorem dX12_seeks_102 : decode cX12_seeks 102 = .ok (.invokevirtual 186, 3) := by decide +kernel
theorem dX12_seeks_105 : decode cX12_seeks 105 = .ok (.ifCond .eq 5, 3) := by decide +kernel
theorem dX12_seeks_108 : decode cX12_seeks 108 = .ok (.iconst 1, 1) := by decide +kernel
theorem dX12_seeks_109 : decode cX12_seeks 109 = .ok (.ireturn, 1) := by decide +kernel
theorem dX12_seeks_110 : decode cX12_seeks 110 = .ok (.iinc 6 1, 3) := by decide +kernel
theorem dX12_seeks_113 : decode cX12_seeks 113 = .ok (.goto (-57), 3) := by decide +kernel
theorem dX12_seeks_116 : decode cX12_seeks 116 = .ok (.iconst 0, 1) := by decide +kernel
theorem dX12_seeks_117 : decode cX12_seeks 117 = .ok (.ireturn, 1) := by decide +kernel
theorem dX12_solved_0 : decode cX12_solved 0 = .ok (.aload_n 0, 1) := by decide +kernel
theorem dX12_solved_1 : decode cX12_solved 1 = .ok (.iload_n 1, 1) := by decide +kernel
theorem dX12_solved_2 : decode cX12_solved 2 = .ok (.invokevirtual 91, 3) := by decide +kernel
theorem dX12_solved_5 : decode cX12_solved 5 = .ok (.ifCond .eq 21, 3) := by decide +kernel
theorem dX12_solved_8 : decode cX12_solved 8 = .ok (.aload_n 0, 1) := by decide +kernel
theorem dX12_solved_9 : decode cX12_solved 9 = .ok (.iload_n 2, 1) := by decide +kernel
theorem dX12_solved_10 : decode cX12_solved 10 = .ok (.invokevirtual 91, 3) := by decide +kernel
theorem dX12_solved_13 : decode cX12_solved 13 = .ok (.ifCond .eq 13, 3) := by decide +kernel
theorem dX12_solved_16 : decode cX12_solved 16 = .ok (.iload_n 3, 1) := by decide +kernel
theorem dX12_solved_17 : decode cX12_solved 17 = .ok (.i2l, 1) := by decide +kernel
theorem dX12_solved_18 : decode cX12_solved 18 = .ok (.lconst 0, 1) := by decide +kernel
theorem dX12_solved_19 : decode cX12_solved 19 = .ok (.lconst 1, 1) := by decide +kernel
theorem dX12_solved_20 : decode cX12_solved 20 = .ok (.invokestatic 70, 3) := by decide +kernel
theorem dX12_solved_23 : decode cX12_solved 23 = .ok (.ifCond .ne 6, 3) := by decide +kernel
theorem dX12_solved_26 : decode cX12_solved 26 = .ok (.bipush (-2), 2) := by decide +kernel
theorem dX12_solved_28 : decode cX12_solved 28 = .ok (.ireturn, 1) := by decide +kernel
theorem dX12_solved_29 : decode cX12_solved 29 = .ok (.iload 4, 2) := by decide +kernel
theorem dX12_solved_31 : decode cX12_solved 31 = .ok (.i2l, 1) := by decide +kernel
theorem dX12_solved_32 : decode cX12_solved 32 = .ok (.lconst 0, 1) := by decide +kernel
theorem dX12_solved_33 : decode cX12_solved 33 = .ok (.ldc2_w 123, 3) := by decide +kernel
theorem dX12_solved_36 : decode cX12_solved 36 = .ok (.invokestatic 70, 3) := by decide +kernel
theorem dX12_solved_39 : decode cX12_solved 39 = .ok (.ifCond .ne 5, 3) := by decide +kernel
theorem dX12_solved_42 : decode cX12_solved 42 = .ok (.iconst (-1), 1) := by decide +kernel
theorem dX12_solved_43 : decode cX12_solved 43 = .ok (.ireturn, 1) := by decide +kernel
theorem dX12_solved_44 : decode cX12_solved 44 = .ok (.iconst 0, 1) := by decide +kernel
theorem dX12_solved_45 : decode cX12_solved 45 = .ok (.istore 5, 2) := by decide +kernel
theorem dX12_solved_47 : decode cX12_solved 47 = .ok (.bipush (-5), 2) := by decide +kernel
theorem dX12_solved_49 : decode cX12_solved 49 = .ok (.istore 6, 2) := by decide +kernel
theorem dX12_solved_51 : decode cX12_solved 51 = .ok (.iconst 0, 1) := by decide +kernel
theorem dX12_solved_52 : decode cX12_solved 52 = .ok (.istore 7, 2) := by decide +kernel
theorem dX12_solved_54 : decode cX12_solved 54 = .ok (.iconst 0, 1) := by decide +kernel
theorem dX12_solved_55 : decode cX12_solved 55 = .ok (.istore 8, 2) := by decide +kernel
theorem dX12_solved_57 : decode cX12_solved 57 = .ok (.iload 8, 2) := by decide +kernel
theorem dX12_solved_59 : decode cX12_solved 59 = .ok (.iconst 1, 1) := by decide +kernel
theorem dX12_solved_60 : decode cX12_solved 60 = .ok (.aload_n 0, 1) := by decide +kernel
theorem dX12_solved_61 : decode cX12_solved 61 = .ok (.getfield 9, 3) := by decide +kernel
theorem dX12_solved_64 : decode cX12_solved 64 = .ok (.ishl, 1) := by decide +kernel
theorem dX12_solved_65 : decode cX12_solved 65 = .ok (.if_icmp .ge 45, 3) := by decide +kernel
theorem dX12_solved_68 : decode cX12_solved 68 = .ok (.aload_n 0, 1) := by decide +kernel
theorem dX12_solved_69 : decode cX12_solved 69 = .ok (.iload 8, 2) := by decide +kernel
theorem dX12_solved_71 : decode cX12_solved 71 = .ok (.iload_n 1, 1) := by decide +kernel
theorem dX12_solved_72 : decode cX12_solved 72 = .ok (.iload_n 3, 1) := by decide +kernel
theorem dX12_solved_73 : decode cX12_solved 73 = .ok (.invokevirtual 113, 3) := by decide +kernel
theorem dX12_solved_76 : decode cX12_solved 76 = .ok (.iload_n 2, 1) := by decide +kernel
theorem dX12_solved_77 : decode cX12_solved 77 = .ok (.if_icmp .ne 27, 3) := by decide +kernel
theorem dX12_solved_80 : decode cX12_solved 80 = .ok (.iload 5, 2) := by decide +kernel
theorem dX12_solved_82 : decode cX12_solved 82 = .ok (.ifCond .ne 8, 3) := by decide +kernel
theorem dX12_solved_85 : decode cX12_solved 85 = .ok (.iload 8, 2) := by decide +kernel
theorem dX12_solved_87 : decode cX12_solved 87 = .ok (.goto 5, 3) := by decide +kernel
theorem dX12_solved_90 : decode cX12_solved 90 = .ok (.iload 6, 2) := by decide +kernel
theorem dX12_solved_92 : decode cX12_solved 92 = .ok (.istore 6, 2) := by decide +kernel
theorem dX12_solved_94 : decode cX12_solved 94 = .ok (.iload 7, 2) := by decide +kernel
theorem dX12_solved_96 : decode cX12_solved 96 = .ok (.iload 8, 2) := by decide +kernel
theorem dX12_solved_98 : decode cX12_solved 98 = .ok (.ior, 1) := by decide +kernel
theorem dX12_solved_99 : decode cX12_solved 99 = .ok (.istore 7, 2) := by decide +kernel
theorem dX12_solved_101 : decode cX12_solved 101 = .ok (.iinc 5 1, 3) := by decide +kernel
theorem dX12_solved_104 : decode cX12_solved 104 = .ok (.iinc 8 1, 3) := by decide +kernel
theorem dX12_solved_107 : decode cX12_solved 107 = .ok (.goto (-50), 3) := by decide +kernel
theorem dX12_solved_110 : decode cX12_solved 110 = .ok (.iload 4, 2) := by decide +kernel
theorem dX12_solved_112 : decode cX12_solved 112 = .ok (.ifCond .ne 8, 3) := by decide +kernel
theorem dX12_solved_115 : decode cX12_solved 115 = .ok (.iload 5, 2) := by decide +kernel
theorem dX12_solved_117 : decode cX12_solved 117 = .ok (.goto 26, 3) := by decide +kernel
theorem dX12_solved_120 : decode cX12_solved 120 = .ok (.iload 4, 2) := by decide +kernel
theorem dX12_solved_122 : decode cX12_solved 122 = .ok (.iconst 1, 1) := by decide +kernel
theorem dX12_solved_123 : decode cX12_solved 123 = .ok (.if_icmp .ne 8, 3) := by decide +kernel
theorem dX12_solved_126 : decode cX12_solved 126 = .ok (.iload 6, 2) := by decide +kernel
theorem dX12_solved_128 : decode cX12_solved 128 = .ok (.goto 15, 3) := by decide +kernel
theorem dX12_solved_131 : decode cX12_solved 131 = .ok (.iload 5, 2) := by decide +kernel
theorem dX12_solved_133 : decode cX12_solved 133 = .ok (.ifCond .ne 8, 3) := by decide +kernel
theorem dX12_solved_136 : decode cX12_solved 136 = .ok (.bipush (-5), 2) := by decide +kernel
theorem dX12_solved_138 : decode cX12_solved 138 = .ok (.goto 5, 3) := by decide +kernel
theorem dX12_solved_141 : decode cX12_solved 141 = .ok (.iload 7, 2) := by decide +kernel
theorem dX12_solved_143 : decode cX12_solved 143 = .ok (.ireturn, 1) := by decide +kernel
theorem dX12_sound_0 : decode cX12_sound 0 = .ok (.iload_n 1, 1) := by decide +kernel
theorem dX12_sound_1 : decode cX12_sound 1 = .ok (.invokestatic 145, 3) := by decide +kernel
theorem dX12_sound_4 : decode cX12_sound 4 = .ok (.ifCond .eq 11, 3) := by decide +kernel
theorem dX12_sound_7 : decode cX12_sound 7 = .ok (.aload_n 0, 1) := by decide +kernel
theorem dX12_sound_8 : decode cX12_sound 8 = .ok (.iload_n 1, 1) := by decide +kernel
theorem dX12_sound_9 : decode cX12_sound 9 = .ok (.invokevirtual 164, 3) := by decide +kernel
theorem dX12_sound_12 : decode cX12_sound 12 = .ok (.goto 4, 3) := by decide +kernel
theorem dX12_sound_15 : decode cX12_sound 15 = .ok (.iconst (-1), 1) := by decide +kernel
theorem dX12_sound_16 : decode cX12_sound 16 = .ok (.ireturn, 1) := by decide +kernel
theorem dX12_spelled_0 : decode cX12_spelled 0 = .ok (.iload_n 1, 1) := by decide +kernel
theorem dX12_spelled_1 : decode cX12_spelled 1 = .ok (.iconst (-1), 1) := by decide +kernel
theorem dX12_spelled_2 : decode cX12_spelled 2 = .ok (.if_icmp .ge 5, 3) := by decide +kernel
theorem dX12_spelled_5 : decode cX12_spelled 5 = .ok (.iconst (-1), 1) := by decide +kernel
theorem dX12_spelled_6 : decode cX12_spelled 6 = .ok (.ireturn, 1) := by decide +kernel
theorem dX12_spelled_7 : decode cX12_spelled 7 = .ok (.aload_n 0, 1) := by decide +kernel
theorem dX12_spelled_8 : decode cX12_spelled 8 = .ok (.iload_n 1, 1) := by decide +kernel
theorem dX12_spelled_9 : decode cX12_spelled 9 = .ok (.putfield 293, 3) := by decide +kernel
theorem dX12_spelled_12 : decode cX12_spelled 12 = .ok (.aload_n 0, 1) := by decide +kernel
theorem dX12_spelled_13 : decode cX12_spelled 13 = .ok (.invokevirtual 309, 3) := by decide +kernel
theorem dX12_spelled_16 : decode cX12_spelled 16 = .ok (.iload_n 1, 1) := by decide +kernel
theorem dX12_spelled_17 : decode cX12_spelled 17 = .ok (.iconst (-1), 1) := by decide +kernel
theorem dX12_spelled_18 : decode cX12_spelled 18 = .ok (.if_icmp .ne 10, 3) := by decide +kernel
theorem dX12_spelled_21 : decode cX12_spelled 21 = .ok (.aload_n 0, 1) := by decide +kernel
theorem dX12_spelled_22 : decode cX12_spelled 22 = .ok (.getfield 290, 3) := by decide +kernel
theorem dX12_spelled_25 : decode cX12_spelled 25 = .ok (.goto 7, 3) := by decide +kernel
theorem dX12_spelled_28 : decode cX12_spelled 28 = .ok (.aload_n 0, 1) := by decide +kernel
theorem dX12_spelled_29 : decode cX12_spelled 29 = .ok (.getfield 296, 3) := by decide +kernel
theorem dX12_spelled_32 : decode cX12_spelled 32 = .ok (.ireturn, 1) := by decide +kernel
theorem dX12_spells_0 : decode cX12_spells 0 = .ok (.aload_n 0, 1) := by decide +kernel
theorem dX12_spells_1 : decode cX12_spells 1 = .ok (.iconst 0, 1) := by decide +kernel
theorem dX12_spells_2 : decode cX12_spells 2 = .ok (.putfield 290, 3) := by decide +kernel
theorem dX12_spells_5 : decode cX12_spells 5 = .ok (.aload_n 0, 1) := by decide +kernel
theorem dX12_spells_6 : decode cX12_spells 6 = .ok (.iconst (-1), 1) := by decide +kernel
theorem dX12_spells_7 : decode cX12_spells 7 = .ok (.putfield 296, 3) := by decide +kernel
theorem dX12_spells_10 : decode cX12_spells 10 = .ok (.aload_n 0, 1) := by decide +kernel
theorem dX12_spells_11 : decode cX12_spells 11 = .ok (.iconst 0, 1) := by decide +kernel
theorem dX12_spells_12 : decode cX12_spells 12 = .ok (.invokevirtual 303, 3) := by decide +kernel
theorem dX12_spells_15 : decode cX12_spells 15 = .ok (.aload_n 0, 1) := by decide +kernel
theorem dX12_spells_16 : decode cX12_spells 16 = .ok (.aload_n 0, 1) := by decide +kernel
theorem dX12_spells_17 : decode cX12_spells 17 = .ok (.getfield 9, 3) := by decide +kernel
theorem dX12_spells_20 : decode cX12_spells 20 = .ok (.invokevirtual 306, 3) := by decide +kernel
theorem dX12_spells_23 : decode cX12_spells 23 = .ok (.iconst 1, 1) := by decide +kernel
theorem dX12_spells_24 : decode cX12_spells 24 = .ok (.istore_n 1, 1) := by decide +kernel
theorem dX12_spells_25 : decode cX12_spells 25 = .ok (.iload_n 1, 1) := by decide +kernel
theorem dX12_spells_26 : decode cX12_spells 26 = .ok (.aload_n 0, 1) := by decide +kernel
theorem dX12_spells_27 : decode cX12_spells 27 = .ok (.getfield 9, 3) := by decide +kernel
theorem dX12_spells_30 : decode cX12_spells 30 = .ok (.if_icmp .ge 45, 3) := by decide +kernel
theorem dX12_spells_33 : decode cX12_spells 33 = .ok (.aload_n 0, 1) := by decide +kernel
theorem dX12_spells_34 : decode cX12_spells 34 = .ok (.getfield 15, 3) := by decide +kernel
theorem dX12_spells_37 : decode cX12_spells 37 = .ok (.iload_n 1, 1) := by decide +kernel
theorem dX12_spells_38 : decode cX12_spells 38 = .ok (.iaload, 1) := by decide +kernel
theorem dX12_spells_39 : decode cX12_spells 39 = .ok (.iload_n 1, 1) := by decide +kernel
theorem dX12_spells_40 : decode cX12_spells 40 = .ok (.if_icmp .le 29, 3) := by decide +kernel
theorem dX12_spells_43 : decode cX12_spells 43 = .ok (.aload_n 0, 1) := by decide +kernel
theorem dX12_spells_44 : decode cX12_spells 44 = .ok (.bipush 59, 2) := by decide +kernel
theorem dX12_spells_46 : decode cX12_spells 46 = .ok (.invokevirtual 299, 3) := by decide +kernel
theorem dX12_spells_49 : decode cX12_spells 49 = .ok (.aload_n 0, 1) := by decide +kernel
theorem dX12_spells_50 : decode cX12_spells 50 = .ok (.iconst 1, 1) := by decide +kernel
theorem dX12_spells_51 : decode cX12_spells 51 = .ok (.invokevirtual 303, 3) := by decide +kernel
theorem dX12_spells_54 : decode cX12_spells 54 = .ok (.aload_n 0, 1) := by decide +kernel
theorem dX12_spells_55 : decode cX12_spells 55 = .ok (.iload_n 1, 1) := by decide +kernel
theorem dX12_spells_56 : decode cX12_spells 56 = .ok (.invokevirtual 306, 3) := by decide +kernel
theorem dX12_spells_59 : decode cX12_spells 59 = .ok (.aload_n 0, 1) := by decide +kernel
theorem dX12_spells_60 : decode cX12_spells 60 = .ok (.aload_n 0, 1) := by decide +kernel
theorem dX12_spells_61 : decode cX12_spells 61 = .ok (.getfield 15, 3) := by decide +kernel
theorem dX12_spells_64 : decode cX12_spells 64 = .ok (.iload_n 1, 1) := by decide +kernel
theorem dX12_spells_65 : decode cX12_spells 65 = .ok (.iaload, 1) := by decide +kernel
theorem dX12_spells_66 : decode cX12_spells 66 = .ok (.invokevirtual 306, 3) := by decide +kernel
theorem dX12_spells_69 : decode cX12_spells 69 = .ok (.iinc 1 1, 3) := by decide +kernel
theorem dX12_spells_72 : decode cX12_spells 72 = .ok (.goto (-47), 3) := by decide +kernel
theorem dX12_spells_75 : decode cX12_spells 75 = .ok (.iconst 1, 1) := by decide +kernel
theorem dX12_spells_76 : decode cX12_spells 76 = .ok (.istore_n 1, 1) := by decide +kernel
theorem dX12_spells_77 : decode cX12_spells 77 = .ok (.iload_n 1, 1) := by decide +kernel
theorem dX12_spells_78 : decode cX12_spells 78 = .ok (.aload_n 0, 1) := by decide +kernel
theorem dX12_spells_79 : decode cX12_spells 79 = .ok (.getfield 9, 3) := by decide +kernel
theorem dX12_spells_82 : decode cX12_spells 82 = .ok (.if_icmp .ge 87, 3) := by decide +kernel
theorem dX12_spells_85 : decode cX12_spells 85 = .ok (.iconst 1, 1) := by decide +kernel
theorem dX12_spells_86 : decode cX12_spells 86 = .ok (.istore_n 2, 1) := by decide +kernel
theorem dX12_spells_87 : decode cX12_spells 87 = .ok (.iload_n 2, 1) := by decide +kernel
theorem dX12_spells_88 : decode cX12_spells 88 = .ok (.aload_n 0, 1) := by decide +kernel
theorem dX12_spells_89 : decode cX12_spells 89 = .ok (.getfield 9, 3) := by decide +kernel
theorem dX12_spells_92 : decode cX12_spells 92 = .ok (.if_icmp .ge 71, 3) := by decide +kernel
theorem dX12_spells_95 : decode cX12_spells 95 = .ok (.iconst 1, 1) := by decide +kernel
theorem dX12_spells_96 : decode cX12_spells 96 = .ok (.istore_n 3, 1) := by decide +kernel
theorem dX12_spells_97 : decode cX12_spells 97 = .ok (.iload_n 3, 1) := by decide +kernel
theorem dX12_spells_98 : decode cX12_spells 98 = .ok (.aload_n 0, 1) := by decide +kernel
theorem dX12_spells_99 : decode cX12_spells 99 = .ok (.getfield 9, 3) := by decide +kernel
theorem dX12_spells_102 : decode cX12_spells 102 = .ok (.if_icmp .ge 55, 3) := by decide +kernel
theorem dX12_spells_105 : decode cX12_spells 105 = .ok (.aload_n 0, 1) := by decide +kernel
theorem dX12_spells_106 : decode cX12_spells 106 = .ok (.iload_n 1, 1) := by decide +kernel
theorem dX12_spells_107 : decode cX12_spells 107 = .ok (.iload_n 2, 1) := by decide +kernel
theorem dX12_spells_108 : decode cX12_spells 108 = .ok (.iload_n 3, 1) := by decide +kernel
theorem dX12_spells_109 : decode cX12_spells 109 = .ok (.invokevirtual 105, 3) := by decide +kernel
theorem dX12_spells_112 : decode cX12_spells 112 = .ok (.ifCond .eq 39, 3) := by decide +kernel
theorem dX12_spells_115 : decode cX12_spells 115 = .ok (.aload_n 0, 1) := by decide +kernel
theorem dX12_spells_116 : decode cX12_spells 116 = .ok (.iload_n 1, 1) := by decide +kernel
theorem dX12_spells_117 : decode cX12_spells 117 = .ok (.iload_n 2, 1) := by decide +kernel
theorem dX12_spells_118 : decode cX12_spells 118 = .ok (.iload_n 3, 1) := by decide +kernel
theorem dX12_spells_119 : decode cX12_spells 119 = .ok (.invokevirtual 127, 3) := by decide +kernel
theorem dX12_spells_122 : decode cX12_spells 122 = .ok (.ifCond .eq 29, 3) := by decide +kernel
theorem dX12_spells_125 : decode cX12_spells 125 = .ok (.aload_n 0, 1) := by decide +kernel
theorem dX12_spells_126 : decode cX12_spells 126 = .ok (.bipush 59, 2) := by decide +kernel
theorem dX12_spells_128 : decode cX12_spells 128 = .ok (.invokevirtual 299, 3) := by decide +kernel
theorem dX12_spells_131 : decode cX12_spells 131 = .ok (.aload_n 0, 1) := by decide +kernel
theorem dX12_spells_132 : decode cX12_spells 132 = .ok (.iconst 2, 1) := by decide +kernel
theorem dX12_spells_133 : decode cX12_spells 133 = .ok (.invokevirtual 303, 3) := by decide +kernel
theorem dX12_spells_136 : decode cX12_spells 136 = .ok (.aload_n 0, 1) := by decide +kernel
theorem dX12_spells_137 : decode cX12_spells 137 = .ok (.iload_n 1, 1) := by decide +kernel
theorem dX12_spells_138 : decode cX12_spells 138 = .ok (.invokevirtual 306, 3) := by decide +kernel
theorem dX12_spells_141 : decode cX12_spells 141 = .ok (.aload_n 0, 1) := by decide +kernel
theorem dX12_spells_142 : decode cX12_spells 142 = .ok (.iload_n 2, 1) := by decide +kernel
theorem dX12_spells_143 : decode cX12_spells 143 = .ok (.invokevirtual 306, 3) := by decide +kernel
theorem dX12_spells_146 : decode cX12_spells 146 = .ok (.aload_n 0, 1) := by decide +kernel
theorem dX12_spells_147 : decode cX12_spells 147 = .ok (.iload_n 3, 1) := by decide +kernel
theorem dX12_spells_148 : decode cX12_spells 148 = .ok (.invokevirtual 306, 3) := by decide +kernel
theorem dX12_spells_151 : decode cX12_spells 151 = .ok (.iinc 3 1, 3) := by decide +kernel
theorem dX12_spells_154 : decode cX12_spells 154 = .ok (.goto (-57), 3) := by decide +kernel
theorem dX12_spells_157 : decode cX12_spells 157 = .ok (.iinc 2 1, 3) := by decide +kernel
theorem dX12_spells_160 : decode cX12_spells 160 = .ok (.goto (-73), 3) := by decide +kernel
theorem dX12_spells_163 : decode cX12_spells 163 = .ok (.iinc 1 1, 3) := by decide +kernel
theorem dX12_spells_166 : decode cX12_spells 166 = .ok (.goto (-89), 3) := by decide +kernel
theorem dX12_spells_169 : decode cX12_spells 169 = .ok (.return_, 1) := by decide +kernel
theorem dX12_statement_0 : decode cX12_statement 0 = .ok (.aload_n 0, 1) := by decide +kernel
theorem dX12_statement_1 : decode cX12_statement 1 = .ok (.invokevirtual 273, 3) := by decide +kernel
theorem dX12_statement_4 : decode cX12_statement 4 = .ok (.istore_n 1, 1) := by decide +kernel
theorem dX12_statement_5 : decode cX12_statement 5 = .ok (.iload_n 1, 1) := by decide +kernel
theorem dX12_statement_6 : decode cX12_statement 6 = .ok (.iconst (-1), 1) := by decide +kernel
theorem dX12_statement_7 : decode cX12_statement 7 = .ok (.if_icmp .ne 5, 3) := by decide +kernel
theorem dX12_statement_10 : decode cX12_statement 10 = .ok (.iconst (-1), 1) := by decide +kernel
theorem dX12_statement_11 : decode cX12_statement 11 = .ok (.ireturn, 1) := by decide +kernel
theorem dX12_statement_12 : decode cX12_statement 12 = .ok (.iconst 0, 1) := by decide +kernel
theorem dX12_statement_13 : decode cX12_statement 13 = .ok (.istore_n 2, 1) := by decide +kernel
theorem dX12_statement_14 : decode cX12_statement 14 = .ok (.iload_n 2, 1) := by decide +kernel
theorem dX12_statement_15 : decode cX12_statement 15 = .ok (.aload_n 0, 1) := by decide +kernel
theorem dX12_statement_16 : decode cX12_statement 16 = .ok (.getfield 46, 3) := by decide +kernel
theorem dX12_statement_19 : decode cX12_statement 19 = .ok (.iload_n 1, 1) := by decide +kernel
theorem dX12_statement_20 : decode cX12_statement 20 = .ok (.iaload, 1) := by decide +kernel
theorem dX12_statement_21 : decode cX12_statement 21 = .ok (.if_icmp .ge 73, 3) := by decide +kernel
theorem dX12_statement_24 : decode cX12_statement 24 = .ok (.aload_n 0, 1) := by decide +kernel
theorem dX12_statement_25 : decode cX12_statement 25 = .ok (.bipush 32, 2) := by decide +kernel
theorem dX12_statement_27 : decode cX12_statement 27 = .ok (.bipush 32, 2) := by decide +kernel
theorem dX12_statement_29 : decode cX12_statement 29 = .ok (.invokevirtual 270, 3) := by decide +kernel
theorem dX12_statement_32 : decode cX12_statement 32 = .ok (.ifCond .ne 5, 3) := by decide +kernel
theorem dX12_statement_35 : decode cX12_statement 35 = .ok (.iconst (-1), 1) := by decide +kernel
theorem dX12_statement_36 : decode cX12_statement 36 = .ok (.ireturn, 1) := by decide +kernel
theorem dX12_statement_37 : decode cX12_statement 37 = .ok (.aload_n 0, 1) := by decide +kernel
theorem dX12_statement_38 : decode cX12_statement 38 = .ok (.dup, 1) := by decide +kernel
theorem dX12_statement_39 : decode cX12_statement 39 = .ok (.getfield 264, 3) := by decide +kernel
theorem dX12_statement_42 : decode cX12_statement 42 = .ok (.iconst 1, 1) := by decide +kernel
theorem dX12_statement_43 : decode cX12_statement 43 = .ok (.iadd, 1) := by decide +kernel
theorem dX12_statement_44 : decode cX12_statement 44 = .ok (.putfield 264, 3) := by decide +kernel
theorem dX12_statement_47 : decode cX12_statement 47 = .ok (.aload_n 0, 1) := by decide +kernel
theorem dX12_statement_48 : decode cX12_statement 48 = .ok (.bipush 48, 2) := by decide +kernel
theorem dX12_statement_50 : decode cX12_statement 50 = .ok (.bipush 57, 2) := by decide +kernel
theorem dX12_statement_52 : decode cX12_statement 52 = .ok (.invokevirtual 270, 3) := by decide +kernel
theorem dX12_statement_55 : decode cX12_statement 55 = .ok (.ifCond .ne 5, 3) := by decide +kernel
theorem dX12_statement_58 : decode cX12_statement 58 = .ok (.iconst (-1), 1) := by decide +kernel
theorem dX12_statement_59 : decode cX12_statement 59 = .ok (.ireturn, 1) := by decide +kernel
theorem dX12_statement_60 : decode cX12_statement 60 = .ok (.aload_n 0, 1) := by decide +kernel
theorem dX12_statement_61 : decode cX12_statement 61 = .ok (.getfield 52, 3) := by decide +kernel
theorem dX12_statement_64 : decode cX12_statement 64 = .ok (.iload_n 2, 1) := by decide +kernel
theorem dX12_statement_65 : decode cX12_statement 65 = .ok (.aload_n 0, 1) := by decide +kernel
theorem dX12_statement_66 : decode cX12_statement 66 = .ok (.getfield 49, 3) := by decide +kernel
theorem dX12_statement_69 : decode cX12_statement 69 = .ok (.aload_n 0, 1) := by decide +kernel
theorem dX12_statement_70 : decode cX12_statement 70 = .ok (.getfield 264, 3) := by decide +kernel
theorem dX12_statement_73 : decode cX12_statement 73 = .ok (.iaload, 1) := by decide +kernel
theorem dX12_statement_74 : decode cX12_statement 74 = .ok (.bipush 48, 2) := by decide +kernel
theorem dX12_statement_76 : decode cX12_statement 76 = .ok (.isub, 1) := by decide +kernel
theorem dX12_statement_77 : decode cX12_statement 77 = .ok (.iastore, 1) := by decide +kernel
theorem dX12_statement_78 : decode cX12_statement 78 = .ok (.aload_n 0, 1) := by decide +kernel
theorem dX12_statement_79 : decode cX12_statement 79 = .ok (.dup, 1) := by decide +kernel
theorem dX12_statement_80 : decode cX12_statement 80 = .ok (.getfield 264, 3) := by decide +kernel
theorem dX12_statement_83 : decode cX12_statement 83 = .ok (.iconst 1, 1) := by decide +kernel
theorem dX12_statement_84 : decode cX12_statement 84 = .ok (.iadd, 1) := by decide +kernel
theorem dX12_statement_85 : decode cX12_statement 85 = .ok (.putfield 264, 3) := by decide +kernel
theorem dX12_statement_88 : decode cX12_statement 88 = .ok (.iinc 2 1, 3) := by decide +kernel
theorem dX12_statement_91 : decode cX12_statement 91 = .ok (.goto (-77), 3) := by decide +kernel
theorem dX12_statement_94 : decode cX12_statement 94 = .ok (.iload_n 1, 1) := by decide +kernel
theorem dX12_statement_95 : decode cX12_statement 95 = .ok (.ireturn, 1) := by decide +kernel
theorem dX12_take_0 : decode cX12_take 0 = .ok (.iload_n 1, 1) := by decide +kernel
theorem dX12_take_1 : decode cX12_take 1 = .ok (.invokestatic 145, 3) := by decide +kernel
theorem dX12_take_4 : decode cX12_take 4 = .ok (.ifCond .ne 5, 3) := by decide +kernel
theorem dX12_take_7 : decode cX12_take 7 = .ok (.iconst (-1), 1) := by decide +kernel
theorem dX12_take_8 : decode cX12_take 8 = .ok (.ireturn, 1) := by decide +kernel
theorem dX12_take_9 : decode cX12_take 9 = .ok (.aload_n 0, 1) := by decide +kernel
theorem dX12_take_10 : decode cX12_take 10 = .ok (.getfield 78, 3) := by decide +kernel
theorem dX12_take_13 : decode cX12_take 13 = .ok (.ifCond .ne 6, 3) := by decide +kernel
theorem dX12_take_16 : decode cX12_take 16 = .ok (.bipush (-3), 2) := by decide +kernel
theorem dX12_take_18 : decode cX12_take 18 = .ok (.ireturn, 1) := by decide +kernel
theorem dX12_take_19 : decode cX12_take 19 = .ok (.aload_n 0, 1) := by decide +kernel
theorem dX12_take_20 : decode cX12_take 20 = .ok (.iconst 4, 1) := by decide +kernel
theorem dX12_take_21 : decode cX12_take 21 = .ok (.iload_n 1, 1) := by decide +kernel
theorem dX12_take_22 : decode cX12_take 22 = .ok (.invokevirtual 161, 3) := by decide +kernel
theorem dX12_take_25 : decode cX12_take 25 = .ok (.aload_n 0, 1) := by decide +kernel
theorem dX12_take_26 : decode cX12_take 26 = .ok (.getfield 23, 3) := by decide +kernel
theorem dX12_take_29 : decode cX12_take 29 = .ok (.iload_n 1, 1) := by decide +kernel
theorem dX12_take_30 : decode cX12_take 30 = .ok (.iaload, 1) := by decide +kernel
theorem dX12_take_31 : decode cX12_take 31 = .ok (.ireturn, 1) := by decide +kernel
theorem dX12_triangle_0 : decode cX12_triangle 0 = .ok (.aload_n 0, 1) := by decide +kernel
theorem dX12_triangle_1 : decode cX12_triangle 1 = .ok (.iload_n 1, 1) := by decide +kernel
theorem dX12_triangle_2 : decode cX12_triangle 2 = .ok (.invokevirtual 98, 3) := by decide +kernel
theorem dX12_triangle_5 : decode cX12_triangle 5 = .ok (.ifCond .eq 19, 3) := by decide +kernel
theorem dX12_triangle_8 : decode cX12_triangle 8 = .ok (.aload_n 0, 1) := by decide +kernel
theorem dX12_triangle_9 : decode cX12_triangle 9 = .ok (.iload_n 2, 1) := by decide +kernel
theorem dX12_triangle_10 : decode cX12_triangle 10 = .ok (.invokevirtual 98, 3) := by decide +kernel
theorem dX12_triangle_13 : decode cX12_triangle 13 = .ok (.ifCond .eq 11, 3) := by decide +kernel
theorem dX12_triangle_16 : decode cX12_triangle 16 = .ok (.aload_n 0, 1) := by decide +kernel
theorem dX12_triangle_17 : decode cX12_triangle 17 = .ok (.iload_n 3, 1) := by decide +kernel
theorem dX12_triangle_18 : decode cX12_triangle 18 = .ok (.invokevirtual 98, 3) := by decide +kernel
theorem dX12_triangle_21 : decode cX12_triangle 21 = .ok (.ifCond .ne 5, 3) := by decide +kernel
theorem dX12_triangle_24 : decode cX12_triangle 24 = .ok (.iconst (-1), 1) := by decide +kernel
theorem dX12_triangle_25 : decode cX12_triangle 25 = .ok (.ireturn, 1) := by decide +kernel
theorem dX12_triangle_26 : decode cX12_triangle 26 = .ok (.iload 4, 2) := by decide +kernel
theorem dX12_triangle_28 : decode cX12_triangle 28 = .ok (.i2l, 1) := by decide +kernel
theorem dX12_triangle_29 : decode cX12_triangle 29 = .ok (.lconst 0, 1) := by decide +kernel
theorem dX12_triangle_30 : decode cX12_triangle 30 = .ok (.lconst 1, 1) := by decide +kernel
theorem dX12_triangle_31 : decode cX12_triangle 31 = .ok (.invokestatic 70, 3) := by decide +kernel
theorem dX12_triangle_34 : decode cX12_triangle 34 = .ok (.ifCond .ne 6, 3) := by decide +kernel
theorem dX12_triangle_37 : decode cX12_triangle 37 = .ok (.bipush (-2), 2) := by decide +kernel
theorem dX12_triangle_39 : decode cX12_triangle 39 = .ok (.ireturn, 1) := by decide +kernel
theorem dX12_triangle_40 : decode cX12_triangle 40 = .ok (.iload_n 1, 1) := by decide +kernel
theorem dX12_triangle_41 : decode cX12_triangle 41 = .ok (.ifCond .eq 11, 3) := by decide +kernel
theorem dX12_triangle_44 : decode cX12_triangle 44 = .ok (.iload_n 2, 1) := by decide +kernel
theorem dX12_triangle_45 : decode cX12_triangle 45 = .ok (.ifCond .eq 7, 3) := by decide +kernel
theorem dX12_triangle_48 : decode cX12_triangle 48 = .ok (.iload_n 3, 1) := by decide +kernel
theorem dX12_triangle_49 : decode cX12_triangle 49 = .ok (.ifCond .ne 6, 3) := by decide +kernel
theorem dX12_triangle_52 : decode cX12_triangle 52 = .ok (.bipush (-3), 2) := by decide +kernel
theorem dX12_triangle_54 : decode cX12_triangle 54 = .ok (.ireturn, 1) := by decide +kernel
theorem dX12_triangle_55 : decode cX12_triangle 55 = .ok (.iconst 0, 1) := by decide +kernel
theorem dX12_triangle_56 : decode cX12_triangle 56 = .ok (.istore 5, 2) := by decide +kernel
theorem dX12_triangle_58 : decode cX12_triangle 58 = .ok (.iconst 0, 1) := by decide +kernel
theorem dX12_triangle_59 : decode cX12_triangle 59 = .ok (.istore 6, 2) := by decide +kernel
theorem dX12_triangle_61 : decode cX12_triangle 61 = .ok (.iload 6, 2) := by decide +kernel
theorem dX12_triangle_63 : decode cX12_triangle 63 = .ok (.bipush 6, 2) := by decide +kernel
theorem dX12_triangle_65 : decode cX12_triangle 65 = .ok (.if_icmp .ge 69, 3) := by decide +kernel
theorem dX12_triangle_68 : decode cX12_triangle 68 = .ok (.aload_n 0, 1) := by decide +kernel
theorem dX12_triangle_69 : decode cX12_triangle 69 = .ok (.iload_n 1, 1) := by decide +kernel
theorem dX12_triangle_70 : decode cX12_triangle 70 = .ok (.iload_n 2, 1) := by decide +kernel
theorem dX12_triangle_71 : decode cX12_triangle 71 = .ok (.iload_n 3, 1) := by decide +kernel
theorem dX12_triangle_72 : decode cX12_triangle 72 = .ok (.iload 6, 2) := by decide +kernel
theorem dX12_triangle_74 : decode cX12_triangle 74 = .ok (.invokevirtual 101, 3) := by decide +kernel
theorem dX12_triangle_77 : decode cX12_triangle 77 = .ok (.istore 7, 2) := by decide +kernel
theorem dX12_triangle_79 : decode cX12_triangle 79 = .ok (.iload 5, 2) := by decide +kernel
theorem dX12_triangle_81 : decode cX12_triangle 81 = .ok (.aload_n 0, 1) := by decide +kernel
theorem dX12_triangle_82 : decode cX12_triangle 82 = .ok (.getfield 19, 3) := by decide +kernel
theorem dX12_triangle_85 : decode cX12_triangle 85 = .ok (.iload 7, 2) := by decide +kernel
theorem dX12_triangle_87 : decode cX12_triangle 87 = .ok (.baload, 1) := by decide +kernel
theorem dX12_triangle_88 : decode cX12_triangle 88 = .ok (.iload 4, 2) := by decide +kernel
theorem dX12_triangle_90 : decode cX12_triangle 90 = .ok (.iconst 1, 1) := by decide +kernel
theorem dX12_triangle_91 : decode cX12_triangle 91 = .ok (.if_icmp .ne 7, 3) := by decide +kernel
theorem dX12_triangle_94 : decode cX12_triangle 94 = .ok (.iconst 1, 1) := by decide +kernel
theorem dX12_triangle_95 : decode cX12_triangle 95 = .ok (.goto 4, 3) := by decide +kernel
theorem dX12_triangle_98 : decode cX12_triangle 98 = .ok (.iconst 0, 1) := by decide +kernel
theorem dX12_triangle_99 : decode cX12_triangle 99 = .ok (.if_icmp .ne 7, 3) := by decide +kernel
theorem dX12_triangle_102 : decode cX12_triangle 102 = .ok (.iconst 0, 1) := by decide +kernel
theorem dX12_triangle_103 : decode cX12_triangle 103 = .ok (.goto 4, 3) := by decide +kernel
theorem dX12_triangle_106 : decode cX12_triangle 106 = .ok (.iconst 1, 1) := by decide +kernel
theorem dX12_triangle_107 : decode cX12_triangle 107 = .ok (.iadd, 1) := by decide +kernel
theorem dX12_triangle_108 : decode cX12_triangle 108 = .ok (.istore 5, 2) := by decide +kernel
theorem dX12_triangle_110 : decode cX12_triangle 110 = .ok (.aload_n 0, 1) := by decide +kernel
theorem dX12_triangle_111 : decode cX12_triangle 111 = .ok (.getfield 19, 3) := by decide +kernel
theorem dX12_triangle_114 : decode cX12_triangle 114 = .ok (.iload 7, 2) := by decide +kernel
theorem dX12_triangle_116 : decode cX12_triangle 116 = .ok (.iload 4, 2) := by decide +kernel
theorem dX12_triangle_118 : decode cX12_triangle 118 = .ok (.iconst 1, 1) := by decide +kernel
theorem dX12_triangle_119 : decode cX12_triangle 119 = .ok (.if_icmp .ne 7, 3) := by decide +kernel
theorem dX12_triangle_122 : decode cX12_triangle 122 = .ok (.iconst 1, 1) := by decide +kernel
theorem dX12_triangle_123 : decode cX12_triangle 123 = .ok (.goto 4, 3) := by decide +kernel
theorem dX12_triangle_126 : decode cX12_triangle 126 = .ok (.iconst 0, 1) := by decide +kernel
theorem dX12_triangle_127 : decode cX12_triangle 127 = .ok (.bastore, 1) := by decide +kernel
theorem dX12_triangle_128 : decode cX12_triangle 128 = .ok (.iinc 6 1, 3) := by decide +kernel
theorem dX12_triangle_131 : decode cX12_triangle 131 = .ok (.goto (-70), 3) := by decide +kernel
theorem dX12_triangle_134 : decode cX12_triangle 134 = .ok (.iload 5, 2) := by decide +kernel
theorem dX12_triangle_136 : decode cX12_triangle 136 = .ok (.ireturn, 1) := by decide +kernel
theorem dX12_turn_0 : decode cX12_turn 0 = .ok (.iload 4, 2) := by decide +kernel
theorem dX12_turn_2 : decode cX12_turn 2 = .ok (.tableswitch 124 0 4 #[34, 45, 61, 77, 103], 34) := by decide +kernel
theorem dX12_turn_36 : decode cX12_turn 36 = .ok (.bipush 16, 2) := by decide +kernel
theorem dX12_turn_38 : decode cX12_turn 38 = .ok (.iload_n 1, 1) := by decide +kernel
theorem dX12_turn_39 : decode cX12_turn 39 = .ok (.imul, 1) := by decide +kernel
theorem dX12_turn_40 : decode cX12_turn 40 = .ok (.iconst 4, 1) := by decide +kernel
theorem dX12_turn_41 : decode cX12_turn 41 = .ok (.iload_n 2, 1) := by decide +kernel
theorem dX12_turn_42 : decode cX12_turn 42 = .ok (.imul, 1) := by decide +kernel
theorem dX12_turn_43 : decode cX12_turn 43 = .ok (.iadd, 1) := by decide +kernel
theorem dX12_turn_44 : decode cX12_turn 44 = .ok (.iload_n 3, 1) := by decide +kernel
theorem dX12_turn_45 : decode cX12_turn 45 = .ok (.iadd, 1) := by decide +kernel
theorem dX12_turn_46 : decode cX12_turn 46 = .ok (.ireturn, 1) := by decide +kernel
theorem dX12_turn_47 : decode cX12_turn 47 = .ok (.bipush 16, 2) := by decide +kernel
theorem dX12_turn_49 : decode cX12_turn 49 = .ok (.aload_n 0, 1) := by decide +kernel
theorem dX12_turn_50 : decode cX12_turn 50 = .ok (.getfield 15, 3) := by decide +kernel
theorem dX12_turn_53 : decode cX12_turn 53 = .ok (.iload_n 1, 1) := by decide +kernel
theorem dX12_turn_54 : decode cX12_turn 54 = .ok (.iaload, 1) := by decide +kernel
theorem dX12_turn_55 : decode cX12_turn 55 = .ok (.imul, 1) := by decide +kernel
theorem dX12_turn_56 : decode cX12_turn 56 = .ok (.iconst 4, 1) := by decide +kernel
theorem dX12_turn_57 : decode cX12_turn 57 = .ok (.iload_n 3, 1) := by decide +kernel
theorem dX12_turn_58 : decode cX12_turn 58 = .ok (.imul, 1) := by decide +kernel
theorem dX12_turn_59 : decode cX12_turn 59 = .ok (.iadd, 1) := by decide +kernel
theorem dX12_turn_60 : decode cX12_turn 60 = .ok (.iload_n 2, 1) := by decide +kernel
theorem dX12_turn_61 : decode cX12_turn 61 = .ok (.iadd, 1) := by decide +kernel
theorem dX12_turn_62 : decode cX12_turn 62 = .ok (.ireturn, 1) := by decide +kernel
theorem dX12_turn_63 : decode cX12_turn 63 = .ok (.bipush 16, 2) := by decide +kernel
theorem dX12_turn_65 : decode cX12_turn 65 = .ok (.iload_n 3, 1) := by decide +kernel
theorem dX12_turn_66 : decode cX12_turn 66 = .ok (.imul, 1) := by decide +kernel
theorem dX12_turn_67 : decode cX12_turn 67 = .ok (.iconst 4, 1) := by decide +kernel
theorem dX12_turn_68 : decode cX12_turn 68 = .ok (.aload_n 0, 1) := by decide +kernel
theorem dX12_turn_69 : decode cX12_turn 69 = .ok (.getfield 15, 3) := by decide +kernel
theorem dX12_turn_72 : decode cX12_turn 72 = .ok (.iload_n 2, 1) := by decide +kernel
theorem dX12_turn_73 : decode cX12_turn 73 = .ok (.iaload, 1) := by decide +kernel
theorem dX12_turn_74 : decode cX12_turn 74 = .ok (.imul, 1) := by decide +kernel
theorem dX12_turn_75 : decode cX12_turn 75 = .ok (.iadd, 1) := by decide +kernel
theorem dX12_turn_76 : decode cX12_turn 76 = .ok (.iload_n 1, 1) := by decide +kernel
theorem dX12_turn_77 : decode cX12_turn 77 = .ok (.iadd, 1) := by decide +kernel
theorem dX12_turn_78 : decode cX12_turn 78 = .ok (.ireturn, 1) := by decide +kernel
theorem dX12_turn_79 : decode cX12_turn 79 = .ok (.bipush 16, 2) := by decide +kernel
theorem dX12_turn_81 : decode cX12_turn 81 = .ok (.aload_n 0, 1) := by decide +kernel
theorem dX12_turn_82 : decode cX12_turn 82 = .ok (.getfield 15, 3) := by decide +kernel
theorem dX12_turn_85 : decode cX12_turn 85 = .ok (.iload_n 2, 1) := by decide +kernel
theorem dX12_turn_86 : decode cX12_turn 86 = .ok (.iaload, 1) := by decide +kernel
theorem dX12_turn_87 : decode cX12_turn 87 = .ok (.imul, 1) := by decide +kernel
theorem dX12_turn_88 : decode cX12_turn 88 = .ok (.iconst 4, 1) := by decide +kernel
theorem dX12_turn_89 : decode cX12_turn 89 = .ok (.aload_n 0, 1) := by decide +kernel
theorem dX12_turn_90 : decode cX12_turn 90 = .ok (.getfield 15, 3) := by decide +kernel
theorem dX12_turn_93 : decode cX12_turn 93 = .ok (.iload_n 1, 1) := by decide +kernel
theorem dX12_turn_94 : decode cX12_turn 94 = .ok (.iaload, 1) := by decide +kernel
theorem dX12_turn_95 : decode cX12_turn 95 = .ok (.imul, 1) := by decide +kernel
theorem dX12_turn_96 : decode cX12_turn 96 = .ok (.iadd, 1) := by decide +kernel
theorem dX12_turn_97 : decode cX12_turn 97 = .ok (.aload_n 0, 1) := by decide +kernel
theorem dX12_turn_98 : decode cX12_turn 98 = .ok (.getfield 15, 3) := by decide +kernel
theorem dX12_turn_101 : decode cX12_turn 101 = .ok (.iload_n 3, 1) := by decide +kernel
theorem dX12_turn_102 : decode cX12_turn 102 = .ok (.iaload, 1) := by decide +kernel
theorem dX12_turn_103 : decode cX12_turn 103 = .ok (.iadd, 1) := by decide +kernel
theorem dX12_turn_104 : decode cX12_turn 104 = .ok (.ireturn, 1) := by decide +kernel
theorem dX12_turn_105 : decode cX12_turn 105 = .ok (.bipush 16, 2) := by decide +kernel
theorem dX12_turn_107 : decode cX12_turn 107 = .ok (.iload_n 2, 1) := by decide +kernel
theorem dX12_turn_108 : decode cX12_turn 108 = .ok (.imul, 1) := by decide +kernel
theorem dX12_turn_109 : decode cX12_turn 109 = .ok (.iconst 4, 1) := by decide +kernel
theorem dX12_turn_110 : decode cX12_turn 110 = .ok (.aload_n 0, 1) := by decide +kernel
theorem dX12_turn_111 : decode cX12_turn 111 = .ok (.getfield 15, 3) := by decide +kernel
theorem dX12_turn_114 : decode cX12_turn 114 = .ok (.iload_n 3, 1) := by decide +kernel
theorem dX12_turn_115 : decode cX12_turn 115 = .ok (.iaload, 1) := by decide +kernel
theorem dX12_turn_116 : decode cX12_turn 116 = .ok (.imul, 1) := by decide +kernel
theorem dX12_turn_117 : decode cX12_turn 117 = .ok (.iadd, 1) := by decide +kernel
theorem dX12_turn_118 : decode cX12_turn 118 = .ok (.aload_n 0, 1) := by decide +kernel
theorem dX12_turn_119 : decode cX12_turn 119 = .ok (.getfield 15, 3) := by decide +kernel
theorem dX12_turn_122 : decode cX12_turn 122 = .ok (.iload_n 1, 1) := by decide +kernel
theorem dX12_turn_123 : decode cX12_turn 123 = .ok (.iaload, 1) := by decide +kernel
theorem dX12_turn_124 : decode cX12_turn 124 = .ok (.iadd, 1) := by decide +kernel
theorem dX12_turn_125 : decode cX12_turn 125 = .ok (.ireturn, 1) := by decide +kernel
theorem dX12_turn_126 : decode cX12_turn 126 = .ok (.bipush 16, 2) := by decide +kernel
theorem dX12_turn_128 : decode cX12_turn 128 = .ok (.aload_n 0, 1) := by decide +kernel
theorem dX12_turn_129 : decode cX12_turn 129 = .ok (.getfield 15, 3) := by decide +kernel
theorem dX12_turn_132 : decode cX12_turn 132 = .ok (.iload_n 3, 1) := by decide +kernel
theorem dX12_turn_133 : decode cX12_turn 133 = .ok (.iaload, 1) := by decide +kernel
theorem dX12_turn_134 : decode cX12_turn 134 = .ok (.imul, 1) := by decide +kernel
theorem dX12_turn_135 : decode cX12_turn 135 = .ok (.iconst 4, 1) := by decide +kernel
theorem dX12_turn_136 : decode cX12_turn 136 = .ok (.iload_n 1, 1) := by decide +kernel
theorem dX12_turn_137 : decode cX12_turn 137 = .ok (.imul, 1) := by decide +kernel
theorem dX12_turn_138 : decode cX12_turn 138 = .ok (.iadd, 1) := by decide +kernel
theorem dX12_turn_139 : decode cX12_turn 139 = .ok (.aload_n 0, 1) := by decide +kernel
theorem dX12_turn_140 : decode cX12_turn 140 = .ok (.getfield 15, 3) := by decide +kernel
theorem dX12_turn_143 : decode cX12_turn 143 = .ok (.iload_n 2, 1) := by decide +kernel
theorem dX12_turn_144 : decode cX12_turn 144 = .ok (.iaload, 1) := by decide +kernel
theorem dX12_turn_145 : decode cX12_turn 145 = .ok (.iadd, 1) := by decide +kernel
theorem dX12_turn_146 : decode cX12_turn 146 = .ok (.ireturn, 1) := by decide +kernel
theorem dX12_turned_0 : decode cX12_turned 0 = .ok (.iconst 0, 1) := by decide +kernel
theorem dX12_turned_1 : decode cX12_turned 1 = .ok (.istore_n 2, 1) := by decide +kernel
theorem dX12_turned_2 : decode cX12_turned 2 = .ok (.iconst 0, 1) := by decide +kernel
theorem dX12_turned_3 : decode cX12_turned 3 = .ok (.istore_n 3, 1) := by decide +kernel
theorem dX12_turned_4 : decode cX12_turned 4 = .ok (.iload_n 3, 1) := by decide +kernel
theorem dX12_turned_5 : decode cX12_turned 5 = .ok (.aload_n 0, 1) := by decide +kernel
theorem dX12_turned_6 : decode cX12_turned 6 = .ok (.getfield 9, 3) := by decide +kernel
theorem dX12_turned_9 : decode cX12_turned 9 = .ok (.if_icmp .ge 32, 3) := by decide +kernel
theorem dX12_turned_12 : decode cX12_turned 12 = .ok (.iload_n 2, 1) := by decide +kernel
theorem dX12_turned_13 : decode cX12_turned 13 = .ok (.iload_n 1, 1) := by decide +kernel
theorem dX12_turned_14 : decode cX12_turned 14 = .ok (.iload_n 3, 1) := by decide +kernel
theorem dX12_turned_15 : decode cX12_turned 15 = .ok (.invokestatic 87, 3) := by decide +kernel
theorem dX12_turned_18 : decode cX12_turned 18 = .ok (.ifCond .eq 14, 3) := by decide +kernel
theorem dX12_turned_21 : decode cX12_turned 21 = .ok (.iconst 1, 1) := by decide +kernel
theorem dX12_turned_22 : decode cX12_turned 22 = .ok (.aload_n 0, 1) := by decide +kernel
theorem dX12_turned_23 : decode cX12_turned 23 = .ok (.getfield 15, 3) := by decide +kernel
theorem dX12_turned_26 : decode cX12_turned 26 = .ok (.iload_n 3, 1) := by decide +kernel
theorem dX12_turned_27 : decode cX12_turned 27 = .ok (.iaload, 1) := by decide +kernel
theorem dX12_turned_28 : decode cX12_turned 28 = .ok (.ishl, 1) := by decide +kernel
theorem dX12_turned_29 : decode cX12_turned 29 = .ok (.goto 4, 3) := by decide +kernel
theorem dX12_turned_32 : decode cX12_turned 32 = .ok (.iconst 0, 1) := by decide +kernel
theorem dX12_turned_33 : decode cX12_turned 33 = .ok (.ior, 1) := by decide +kernel
theorem dX12_turned_34 : decode cX12_turned 34 = .ok (.istore_n 2, 1) := by decide +kernel
theorem dX12_turned_35 : decode cX12_turned 35 = .ok (.iinc 3 1, 3) := by decide +kernel
theorem dX12_turned_38 : decode cX12_turned 38 = .ok (.goto (-34), 3) := by decide +kernel
theorem dX12_turned_41 : decode cX12_turned 41 = .ok (.iload_n 2, 1) := by decide +kernel
theorem dX12_turned_42 : decode cX12_turned 42 = .ok (.ireturn, 1) := by decide +kernel
theorem dX12_undo_0 : decode cX12_undo 0 = .ok (.aload_n 0, 1) := by decide +kernel
theorem dX12_undo_1 : decode cX12_undo 1 = .ok (.getfield 312, 3) := by decide +kernel
theorem dX12_undo_4 : decode cX12_undo 4 = .ok (.ifCond .ne 6, 3) := by decide +kernel
theorem dX12_undo_7 : decode cX12_undo 7 = .ok (.bipush (-3), 2) := by decide +kernel
theorem dX12_undo_9 : decode cX12_undo 9 = .ok (.ireturn, 1) := by decide +kernel
theorem dX12_undo_10 : decode cX12_undo 10 = .ok (.aload_n 0, 1) := by decide +kernel
theorem dX12_undo_11 : decode cX12_undo 11 = .ok (.aload_n 0, 1) := by decide +kernel
theorem dX12_undo_12 : decode cX12_undo 12 = .ok (.getfield 315, 3) := by decide +kernel
theorem dX12_undo_15 : decode cX12_undo 15 = .ok (.putfield 9, 3) := by decide +kernel
theorem dX12_undo_18 : decode cX12_undo 18 = .ok (.iconst 0, 1) := by decide +kernel
theorem dX12_undo_19 : decode cX12_undo 19 = .ok (.istore_n 1, 1) := by decide +kernel
theorem dX12_undo_20 : decode cX12_undo 20 = .ok (.iload_n 1, 1) := by decide +kernel
theorem dX12_undo_21 : decode cX12_undo 21 = .ok (.iconst 4, 1) := by decide +kernel
theorem dX12_undo_22 : decode cX12_undo 22 = .ok (.if_icmp .ge 21, 3) := by decide +kernel
theorem dX12_undo_25 : decode cX12_undo 25 = .ok (.aload_n 0, 1) := by decide +kernel
theorem dX12_undo_26 : decode cX12_undo 26 = .ok (.getfield 15, 3) := by decide +kernel
theorem dX12_undo_29 : decode cX12_undo 29 = .ok (.iload_n 1, 1) := by decide +kernel
theorem dX12_undo_30 : decode cX12_undo 30 = .ok (.aload_n 0, 1) := by decide +kernel
theorem dX12_undo_31 : decode cX12_undo 31 = .ok (.getfield 55, 3) := by decide +kernel
theorem dX12_undo_34 : decode cX12_undo 34 = .ok (.iload_n 1, 1) := by decide +kernel
theorem dX12_undo_35 : decode cX12_undo 35 = .ok (.iaload, 1) := by decide +kernel
theorem dX12_undo_36 : decode cX12_undo 36 = .ok (.iastore, 1) := by decide +kernel
theorem dX12_undo_37 : decode cX12_undo 37 = .ok (.iinc 1 1, 3) := by decide +kernel
theorem dX12_undo_40 : decode cX12_undo 40 = .ok (.goto (-20), 3) := by decide +kernel
theorem dX12_undo_43 : decode cX12_undo 43 = .ok (.iconst 0, 1) := by decide +kernel
theorem dX12_undo_44 : decode cX12_undo 44 = .ok (.istore_n 1, 1) := by decide +kernel
theorem dX12_undo_45 : decode cX12_undo 45 = .ok (.iload_n 1, 1) := by decide +kernel
theorem dX12_undo_46 : decode cX12_undo 46 = .ok (.bipush 64, 2) := by decide +kernel
theorem dX12_undo_48 : decode cX12_undo 48 = .ok (.if_icmp .ge 21, 3) := by decide +kernel
theorem dX12_undo_51 : decode cX12_undo 51 = .ok (.aload_n 0, 1) := by decide +kernel
theorem dX12_undo_52 : decode cX12_undo 52 = .ok (.getfield 19, 3) := by decide +kernel
theorem dX12_undo_55 : decode cX12_undo 55 = .ok (.iload_n 1, 1) := by decide +kernel
theorem dX12_undo_56 : decode cX12_undo 56 = .ok (.aload_n 0, 1) := by decide +kernel
theorem dX12_undo_57 : decode cX12_undo 57 = .ok (.getfield 58, 3) := by decide +kernel
theorem dX12_undo_60 : decode cX12_undo 60 = .ok (.iload_n 1, 1) := by decide +kernel
theorem dX12_undo_61 : decode cX12_undo 61 = .ok (.baload, 1) := by decide +kernel
theorem dX12_undo_62 : decode cX12_undo 62 = .ok (.bastore, 1) := by decide +kernel
theorem dX12_undo_63 : decode cX12_undo 63 = .ok (.iinc 1 1, 3) := by decide +kernel
theorem dX12_undo_66 : decode cX12_undo 66 = .ok (.goto (-21), 3) := by decide +kernel
theorem dX12_undo_69 : decode cX12_undo 69 = .ok (.iconst 0, 1) := by decide +kernel
theorem dX12_undo_70 : decode cX12_undo 70 = .ok (.istore_n 1, 1) := by decide +kernel
theorem dX12_undo_71 : decode cX12_undo 71 = .ok (.iload_n 1, 1) := by decide +kernel
theorem dX12_undo_72 : decode cX12_undo 72 = .ok (.iconst 3, 1) := by decide +kernel
theorem dX12_undo_73 : decode cX12_undo 73 = .ok (.if_icmp .gt 21, 3) := by decide +kernel
theorem dX12_undo_76 : decode cX12_undo 76 = .ok (.aload_n 0, 1) := by decide +kernel
theorem dX12_undo_77 : decode cX12_undo 77 = .ok (.getfield 23, 3) := by decide +kernel
theorem dX12_undo_80 : decode cX12_undo 80 = .ok (.iload_n 1, 1) := by decide +kernel
theorem dX12_undo_81 : decode cX12_undo 81 = .ok (.aload_n 0, 1) := by decide +kernel
theorem dX12_undo_82 : decode cX12_undo 82 = .ok (.getfield 61, 3) := by decide +kernel
theorem dX12_undo_85 : decode cX12_undo 85 = .ok (.iload_n 1, 1) := by decide +kernel
theorem dX12_undo_86 : decode cX12_undo 86 = .ok (.iaload, 1) := by decide +kernel
theorem dX12_undo_87 : decode cX12_undo 87 = .ok (.iastore, 1) := by decide +kernel
theorem dX12_undo_88 : decode cX12_undo 88 = .ok (.iinc 1 1, 3) := by decide +kernel
theorem dX12_undo_91 : decode cX12_undo 91 = .ok (.goto (-20), 3) := by decide +kernel
theorem dX12_undo_94 : decode cX12_undo 94 = .ok (.iconst 0, 1) := by decide +kernel
theorem dX12_undo_95 : decode cX12_undo 95 = .ok (.istore_n 1, 1) := by decide +kernel
theorem dX12_undo_96 : decode cX12_undo 96 = .ok (.iload_n 1, 1) := by decide +kernel
theorem dX12_undo_97 : decode cX12_undo 97 = .ok (.sipush 144, 3) := by decide +kernel
theorem dX12_undo_100 : decode cX12_undo 100 = .ok (.if_icmp .ge 21, 3) := by decide +kernel
theorem dX12_undo_103 : decode cX12_undo 103 = .ok (.aload_n 0, 1) := by decide +kernel
theorem dX12_undo_104 : decode cX12_undo 104 = .ok (.getfield 26, 3) := by decide +kernel
theorem dX12_undo_107 : decode cX12_undo 107 = .ok (.iload_n 1, 1) := by decide +kernel
theorem dX12_undo_108 : decode cX12_undo 108 = .ok (.aload_n 0, 1) := by decide +kernel
theorem dX12_undo_109 : decode cX12_undo 109 = .ok (.getfield 64, 3) := by decide +kernel
theorem dX12_undo_112 : decode cX12_undo 112 = .ok (.iload_n 1, 1) := by decide +kernel
theorem dX12_undo_113 : decode cX12_undo 113 = .ok (.iaload, 1) := by decide +kernel
theorem dX12_undo_114 : decode cX12_undo 114 = .ok (.iastore, 1) := by decide +kernel
theorem dX12_undo_115 : decode cX12_undo 115 = .ok (.iinc 1 1, 3) := by decide +kernel
theorem dX12_undo_118 : decode cX12_undo 118 = .ok (.goto (-22), 3) := by decide +kernel
theorem dX12_undo_121 : decode cX12_undo 121 = .ok (.aload_n 0, 1) := by decide +kernel
theorem dX12_undo_122 : decode cX12_undo 122 = .ok (.aload_n 0, 1) := by decide +kernel
theorem dX12_undo_123 : decode cX12_undo 123 = .ok (.getfield 318, 3) := by decide +kernel
theorem dX12_undo_126 : decode cX12_undo 126 = .ok (.putfield 74, 3) := by decide +kernel
theorem dX12_undo_129 : decode cX12_undo 129 = .ok (.aload_n 0, 1) := by decide +kernel
theorem dX12_undo_130 : decode cX12_undo 130 = .ok (.iconst 0, 1) := by decide +kernel
theorem dX12_undo_131 : decode cX12_undo 131 = .ok (.putfield 78, 3) := by decide +kernel
theorem dX12_undo_134 : decode cX12_undo 134 = .ok (.aload_n 0, 1) := by decide +kernel
theorem dX12_undo_135 : decode cX12_undo 135 = .ok (.getfield 9, 3) := by decide +kernel
theorem dX12_undo_138 : decode cX12_undo 138 = .ok (.ireturn, 1) := by decide +kernel
theorem dX12_unsound_0 : decode cX12_unsound 0 = .ok (.iconst 0, 1) := by decide +kernel
theorem dX12_unsound_1 : decode cX12_unsound 1 = .ok (.istore_n 2, 1) := by decide +kernel
theorem dX12_unsound_2 : decode cX12_unsound 2 = .ok (.iload_n 2, 1) := by decide +kernel
theorem dX12_unsound_3 : decode cX12_unsound 3 = .ok (.aload_n 0, 1) := by decide +kernel
theorem dX12_unsound_4 : decode cX12_unsound 4 = .ok (.getfield 23, 3) := by decide +kernel
theorem dX12_unsound_7 : decode cX12_unsound 7 = .ok (.iload_n 1, 1) := by decide +kernel
theorem dX12_unsound_8 : decode cX12_unsound 8 = .ok (.iaload, 1) := by decide +kernel
theorem dX12_unsound_9 : decode cX12_unsound 9 = .ok (.if_icmp .ge 90, 3) := by decide +kernel
theorem dX12_unsound_12 : decode cX12_unsound 12 = .ok (.iconst 0, 1) := by decide +kernel
theorem dX12_unsound_13 : decode cX12_unsound 13 = .ok (.istore_n 3, 1) := by decide +kernel
theorem dX12_unsound_14 : decode cX12_unsound 14 = .ok (.iload_n 3, 1) := by decide +kernel
theorem dX12_unsound_15 : decode cX12_unsound 15 = .ok (.aload_n 0, 1) := by decide +kernel
theorem dX12_unsound_16 : decode cX12_unsound 16 = .ok (.getfield 23, 3) := by decide +kernel
theorem dX12_unsound_19 : decode cX12_unsound 19 = .ok (.iload_n 1, 1) := by decide +kernel
theorem dX12_unsound_20 : decode cX12_unsound 20 = .ok (.iaload, 1) := by decide +kernel
theorem dX12_unsound_21 : decode cX12_unsound 21 = .ok (.if_icmp .ge 72, 3) := by decide +kernel
theorem dX12_unsound_24 : decode cX12_unsound 24 = .ok (.iconst 0, 1) := by decide +kernel
theorem dX12_unsound_25 : decode cX12_unsound 25 = .ok (.istore 4, 2) := by decide +kernel
theorem dX12_unsound_27 : decode cX12_unsound 27 = .ok (.iload 4, 2) := by decide +kernel
theorem dX12_unsound_29 : decode cX12_unsound 29 = .ok (.aload_n 0, 1) := by decide +kernel
theorem dX12_unsound_30 : decode cX12_unsound 30 = .ok (.getfield 23, 3) := by decide +kernel
theorem dX12_unsound_33 : decode cX12_unsound 33 = .ok (.iload_n 1, 1) := by decide +kernel
theorem dX12_unsound_34 : decode cX12_unsound 34 = .ok (.iaload, 1) := by decide +kernel
theorem dX12_unsound_35 : decode cX12_unsound 35 = .ok (.if_icmp .ge 52, 3) := by decide +kernel
theorem dX12_unsound_38 : decode cX12_unsound 38 = .ok (.aload_n 0, 1) := by decide +kernel
theorem dX12_unsound_39 : decode cX12_unsound 39 = .ok (.aload_n 0, 1) := by decide +kernel
theorem dX12_unsound_40 : decode cX12_unsound 40 = .ok (.iload_n 1, 1) := by decide +kernel
theorem dX12_unsound_41 : decode cX12_unsound 41 = .ok (.iload_n 2, 1) := by decide +kernel
theorem dX12_unsound_42 : decode cX12_unsound 42 = .ok (.iload_n 3, 1) := by decide +kernel
theorem dX12_unsound_43 : decode cX12_unsound 43 = .ok (.invokevirtual 158, 3) := by decide +kernel
theorem dX12_unsound_46 : decode cX12_unsound 46 = .ok (.aload_n 0, 1) := by decide +kernel
theorem dX12_unsound_47 : decode cX12_unsound 47 = .ok (.iload_n 1, 1) := by decide +kernel
theorem dX12_unsound_48 : decode cX12_unsound 48 = .ok (.iload_n 3, 1) := by decide +kernel
theorem dX12_unsound_49 : decode cX12_unsound 49 = .ok (.iload 4, 2) := by decide +kernel
theorem dX12_unsound_51 : decode cX12_unsound 51 = .ok (.invokevirtual 158, 3) := by decide +kernel
theorem dX12_unsound_54 : decode cX12_unsound 54 = .ok (.aload_n 0, 1) := by decide +kernel
theorem dX12_unsound_55 : decode cX12_unsound 55 = .ok (.iload_n 1, 1) := by decide +kernel
theorem dX12_unsound_56 : decode cX12_unsound 56 = .ok (.iload_n 2, 1) := by decide +kernel
theorem dX12_unsound_57 : decode cX12_unsound 57 = .ok (.iload 4, 2) := by decide +kernel
theorem dX12_unsound_59 : decode cX12_unsound 59 = .ok (.invokevirtual 158, 3) := by decide +kernel
theorem dX12_unsound_62 : decode cX12_unsound 62 = .ok (.invokevirtual 105, 3) := by decide +kernel
theorem dX12_unsound_65 : decode cX12_unsound 65 = .ok (.ifCond .ne 16, 3) := by decide +kernel
theorem dX12_unsound_68 : decode cX12_unsound 68 = .ok (.bipush 100, 2) := by decide +kernel
theorem dX12_unsound_70 : decode cX12_unsound 70 = .ok (.iload_n 2, 1) := by decide +kernel
theorem dX12_unsound_71 : decode cX12_unsound 71 = .ok (.imul, 1) := by decide +kernel
theorem dX12_unsound_72 : decode cX12_unsound 72 = .ok (.bipush 10, 2) := by decide +kernel
theorem dX12_unsound_74 : decode cX12_unsound 74 = .ok (.iload_n 3, 1) := by decide +kernel
theorem dX12_unsound_75 : decode cX12_unsound 75 = .ok (.imul, 1) := by decide +kernel
theorem dX12_unsound_76 : decode cX12_unsound 76 = .ok (.iadd, 1) := by decide +kernel
theorem dX12_unsound_77 : decode cX12_unsound 77 = .ok (.iload 4, 2) := by decide +kernel
theorem dX12_unsound_79 : decode cX12_unsound 79 = .ok (.iadd, 1) := by decide +kernel
theorem dX12_unsound_80 : decode cX12_unsound 80 = .ok (.ireturn, 1) := by decide +kernel
theorem dX12_unsound_81 : decode cX12_unsound 81 = .ok (.iinc 4 1, 3) := by decide +kernel
theorem dX12_unsound_84 : decode cX12_unsound 84 = .ok (.goto (-57), 3) := by decide +kernel
theorem dX12_unsound_87 : decode cX12_unsound 87 = .ok (.iinc 3 1, 3) := by decide +kernel
theorem dX12_unsound_90 : decode cX12_unsound 90 = .ok (.goto (-76), 3) := by decide +kernel
theorem dX12_unsound_93 : decode cX12_unsound 93 = .ok (.iinc 2 1, 3) := by decide +kernel
theorem dX12_unsound_96 : decode cX12_unsound 96 = .ok (.goto (-94), 3) := by decide +kernel
theorem dX12_unsound_99 : decode cX12_unsound 99 = .ok (.bipush (-5), 2) := by decide +kernel
theorem dX12_unsound_101 : decode cX12_unsound 101 = .ok (.ireturn, 1) := by decide +kernel
