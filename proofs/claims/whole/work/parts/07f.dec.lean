theorem dX8_isEquivalence_0 : decode cX8_isEquivalence 0 = .ok (.iload_n 1, 1) := by decide +kernel
theorem dX8_isEquivalence_1 : decode cX8_isEquivalence 1 = .ok (.iconst 1, 1) := by decide +kernel
theorem dX8_isEquivalence_2 : decode cX8_isEquivalence 2 = .ok (.iand, 1) := by decide +kernel
theorem dX8_isEquivalence_3 : decode cX8_isEquivalence 3 = .ok (.iconst 1, 1) := by decide +kernel
theorem dX8_isEquivalence_4 : decode cX8_isEquivalence 4 = .ok (.if_icmp .ne 29, 3) := by decide +kernel
theorem dX8_isEquivalence_7 : decode cX8_isEquivalence 7 = .ok (.aload_n 0, 1) := by decide +kernel
theorem dX8_isEquivalence_8 : decode cX8_isEquivalence 8 = .ok (.iload_n 1, 1) := by decide +kernel
theorem dX8_isEquivalence_9 : decode cX8_isEquivalence 9 = .ok (.invokevirtual 60, 3) := by decide +kernel
theorem dX8_isEquivalence_12 : decode cX8_isEquivalence 12 = .ok (.iload_n 1, 1) := by decide +kernel
theorem dX8_isEquivalence_13 : decode cX8_isEquivalence 13 = .ok (.if_icmp .ne 20, 3) := by decide +kernel
theorem dX8_isEquivalence_16 : decode cX8_isEquivalence 16 = .ok (.aload_n 0, 1) := by decide +kernel
theorem dX8_isEquivalence_17 : decode cX8_isEquivalence 17 = .ok (.iload_n 1, 1) := by decide +kernel
theorem dX8_isEquivalence_18 : decode cX8_isEquivalence 18 = .ok (.iload_n 1, 1) := by decide +kernel
theorem dX8_isEquivalence_19 : decode cX8_isEquivalence 19 = .ok (.invokevirtual 48, 3) := by decide +kernel
theorem dX8_isEquivalence_22 : decode cX8_isEquivalence 22 = .ok (.iload_n 1, 1) := by decide +kernel
theorem dX8_isEquivalence_23 : decode cX8_isEquivalence 23 = .ok (.iconst (-1), 1) := by decide +kernel
theorem dX8_isEquivalence_24 : decode cX8_isEquivalence 24 = .ok (.ixor, 1) := by decide +kernel
theorem dX8_isEquivalence_25 : decode cX8_isEquivalence 25 = .ok (.iand, 1) := by decide +kernel
theorem dX8_isEquivalence_26 : decode cX8_isEquivalence 26 = .ok (.ifCond .ne 7, 3) := by decide +kernel
theorem dX8_isEquivalence_29 : decode cX8_isEquivalence 29 = .ok (.iconst 1, 1) := by decide +kernel
theorem dX8_isEquivalence_30 : decode cX8_isEquivalence 30 = .ok (.goto 4, 3) := by decide +kernel
theorem dX8_isEquivalence_33 : decode cX8_isEquivalence 33 = .ok (.iconst 0, 1) := by decide +kernel
theorem dX8_isEquivalence_34 : decode cX8_isEquivalence 34 = .ok (.ireturn, 1) := by decide +kernel
theorem dX8_isLeastTurn_0 : decode cX8_isLeastTurn 0 = .ok (.aload_n 0, 1) := by decide +kernel
theorem dX8_isLeastTurn_1 : decode cX8_isLeastTurn 1 = .ok (.iload_n 1, 1) := by decide +kernel
theorem dX8_isLeastTurn_2 : decode cX8_isLeastTurn 2 = .ok (.iload_n 2, 1) := by decide +kernel
theorem dX8_isLeastTurn_3 : decode cX8_isLeastTurn 3 = .ok (.iload_n 3, 1) := by decide +kernel
theorem dX8_isLeastTurn_4 : decode cX8_isLeastTurn 4 = .ok (.invokevirtual 37, 3) := by decide +kernel
theorem dX8_isLeastTurn_7 : decode cX8_isLeastTurn 7 = .ok (.lstore 4, 2) := by decide +kernel
theorem dX8_isLeastTurn_9 : decode cX8_isLeastTurn 9 = .ok (.lload 4, 2) := by decide +kernel
theorem dX8_isLeastTurn_11 : decode cX8_isLeastTurn 11 = .ok (.lload 4, 2) := by decide +kernel
theorem dX8_isLeastTurn_13 : decode cX8_isLeastTurn 13 = .ok (.lneg, 1) := by decide +kernel
theorem dX8_isLeastTurn_14 : decode cX8_isLeastTurn 14 = .ok (.land, 1) := by decide +kernel
theorem dX8_isLeastTurn_15 : decode cX8_isLeastTurn 15 = .ok (.iload_n 1, 1) := by decide +kernel
theorem dX8_isLeastTurn_16 : decode cX8_isLeastTurn 16 = .ok (.iload_n 2, 1) := by decide +kernel
theorem dX8_isLeastTurn_17 : decode cX8_isLeastTurn 17 = .ok (.iload_n 3, 1) := by decide +kernel
theorem dX8_isLeastTurn_18 : decode cX8_isLeastTurn 18 = .ok (.invokestatic 33, 3) := by decide +kernel
theorem dX8_isLeastTurn_21 : decode cX8_isLeastTurn 21 = .ok (.lcmp, 1) := by decide +kernel
theorem dX8_isLeastTurn_22 : decode cX8_isLeastTurn 22 = .ok (.ifCond .ne 7, 3) := by decide +kernel
theorem dX8_isLeastTurn_25 : decode cX8_isLeastTurn 25 = .ok (.iconst 1, 1) := by decide +kernel
theorem dX8_isLeastTurn_26 : decode cX8_isLeastTurn 26 = .ok (.goto 4, 3) := by decide +kernel
theorem dX8_isLeastTurn_29 : decode cX8_isLeastTurn 29 = .ok (.iconst 0, 1) := by decide +kernel
theorem dX8_isLeastTurn_30 : decode cX8_isLeastTurn 30 = .ok (.ireturn, 1) := by decide +kernel
theorem dX8_isUnbalanced_0 : decode cX8_isUnbalanced 0 = .ok (.aload_n 0, 1) := by decide +kernel
theorem dX8_isUnbalanced_1 : decode cX8_isUnbalanced 1 = .ok (.aload_n 0, 1) := by decide +kernel
theorem dX8_isUnbalanced_2 : decode cX8_isUnbalanced 2 = .ok (.iconst 1, 1) := by decide +kernel
theorem dX8_isUnbalanced_3 : decode cX8_isUnbalanced 3 = .ok (.iload_n 1, 1) := by decide +kernel
theorem dX8_isUnbalanced_4 : decode cX8_isUnbalanced 4 = .ok (.ishl, 1) := by decide +kernel
theorem dX8_isUnbalanced_5 : decode cX8_isUnbalanced 5 = .ok (.iconst 1, 1) := by decide +kernel
theorem dX8_isUnbalanced_6 : decode cX8_isUnbalanced 6 = .ok (.iload_n 2, 1) := by decide +kernel
theorem dX8_isUnbalanced_7 : decode cX8_isUnbalanced 7 = .ok (.ishl, 1) := by decide +kernel
theorem dX8_isUnbalanced_8 : decode cX8_isUnbalanced 8 = .ok (.invokevirtual 48, 3) := by decide +kernel
theorem dX8_isUnbalanced_11 : decode cX8_isUnbalanced 11 = .ok (.iconst 1, 1) := by decide +kernel
theorem dX8_isUnbalanced_12 : decode cX8_isUnbalanced 12 = .ok (.iload_n 3, 1) := by decide +kernel
theorem dX8_isUnbalanced_13 : decode cX8_isUnbalanced 13 = .ok (.ishl, 1) := by decide +kernel
theorem dX8_isUnbalanced_14 : decode cX8_isUnbalanced 14 = .ok (.invokevirtual 48, 3) := by decide +kernel
theorem dX8_isUnbalanced_17 : decode cX8_isUnbalanced 17 = .ok (.istore 4, 2) := by decide +kernel
theorem dX8_isUnbalanced_19 : decode cX8_isUnbalanced 19 = .ok (.iload 4, 2) := by decide +kernel
theorem dX8_isUnbalanced_21 : decode cX8_isUnbalanced 21 = .ok (.aload_n 0, 1) := by decide +kernel
theorem dX8_isUnbalanced_22 : decode cX8_isUnbalanced 22 = .ok (.iconst 1, 1) := by decide +kernel
theorem dX8_isUnbalanced_23 : decode cX8_isUnbalanced 23 = .ok (.iload_n 1, 1) := by decide +kernel
theorem dX8_isUnbalanced_24 : decode cX8_isUnbalanced 24 = .ok (.ishl, 1) := by decide +kernel
theorem dX8_isUnbalanced_25 : decode cX8_isUnbalanced 25 = .ok (.aload_n 0, 1) := by decide +kernel
theorem dX8_isUnbalanced_26 : decode cX8_isUnbalanced 26 = .ok (.iconst 1, 1) := by decide +kernel
theorem dX8_isUnbalanced_27 : decode cX8_isUnbalanced 27 = .ok (.iload_n 2, 1) := by decide +kernel
theorem dX8_isUnbalanced_28 : decode cX8_isUnbalanced 28 = .ok (.ishl, 1) := by decide +kernel
theorem dX8_isUnbalanced_29 : decode cX8_isUnbalanced 29 = .ok (.iconst 1, 1) := by decide +kernel
theorem dX8_isUnbalanced_30 : decode cX8_isUnbalanced 30 = .ok (.iload_n 3, 1) := by decide +kernel
theorem dX8_isUnbalanced_31 : decode cX8_isUnbalanced 31 = .ok (.ishl, 1) := by decide +kernel
theorem dX8_isUnbalanced_32 : decode cX8_isUnbalanced 32 = .ok (.invokevirtual 48, 3) := by decide +kernel
theorem dX8_isUnbalanced_35 : decode cX8_isUnbalanced 35 = .ok (.invokevirtual 48, 3) := by decide +kernel
theorem dX8_isUnbalanced_38 : decode cX8_isUnbalanced 38 = .ok (.if_icmp .eq 7, 3) := by decide +kernel
theorem dX8_isUnbalanced_41 : decode cX8_isUnbalanced 41 = .ok (.iconst 1, 1) := by decide +kernel
theorem dX8_isUnbalanced_42 : decode cX8_isUnbalanced 42 = .ok (.goto 4, 3) := by decide +kernel
theorem dX8_isUnbalanced_45 : decode cX8_isUnbalanced 45 = .ok (.iconst 0, 1) := by decide +kernel
theorem dX8_isUnbalanced_46 : decode cX8_isUnbalanced 46 = .ok (.ireturn, 1) := by decide +kernel
theorem dX8_keepFixed_0 : decode cX8_keepFixed 0 = .ok (.aload_n 0, 1) := by decide +kernel
theorem dX8_keepFixed_1 : decode cX8_keepFixed 1 = .ok (.lconst 0, 1) := by decide +kernel
theorem dX8_keepFixed_2 : decode cX8_keepFixed 2 = .ok (.putfield 19, 3) := by decide +kernel
theorem dX8_keepFixed_5 : decode cX8_keepFixed 5 = .ok (.iconst 0, 1) := by decide +kernel
theorem dX8_keepFixed_6 : decode cX8_keepFixed 6 = .ok (.istore_n 1, 1) := by decide +kernel
theorem dX8_keepFixed_7 : decode cX8_keepFixed 7 = .ok (.iload_n 1, 1) := by decide +kernel
theorem dX8_keepFixed_8 : decode cX8_keepFixed 8 = .ok (.aload_n 0, 1) := by decide +kernel
theorem dX8_keepFixed_9 : decode cX8_keepFixed 9 = .ok (.getfield 9, 3) := by decide +kernel
theorem dX8_keepFixed_12 : decode cX8_keepFixed 12 = .ok (.if_icmp .ge 43, 3) := by decide +kernel
theorem dX8_keepFixed_15 : decode cX8_keepFixed 15 = .ok (.aload_n 0, 1) := by decide +kernel
theorem dX8_keepFixed_16 : decode cX8_keepFixed 16 = .ok (.dup, 1) := by decide +kernel
theorem dX8_keepFixed_17 : decode cX8_keepFixed 17 = .ok (.getfield 19, 3) := by decide +kernel
theorem dX8_keepFixed_20 : decode cX8_keepFixed 20 = .ok (.iconst 0, 1) := by decide +kernel
theorem dX8_keepFixed_21 : decode cX8_keepFixed 21 = .ok (.iload_n 1, 1) := by decide +kernel
theorem dX8_keepFixed_22 : decode cX8_keepFixed 22 = .ok (.iload_n 1, 1) := by decide +kernel
theorem dX8_keepFixed_23 : decode cX8_keepFixed 23 = .ok (.invokestatic 33, 3) := by decide +kernel
theorem dX8_keepFixed_26 : decode cX8_keepFixed 26 = .ok (.iload_n 1, 1) := by decide +kernel
theorem dX8_keepFixed_27 : decode cX8_keepFixed 27 = .ok (.iconst 0, 1) := by decide +kernel
theorem dX8_keepFixed_28 : decode cX8_keepFixed 28 = .ok (.iload_n 1, 1) := by decide +kernel
theorem dX8_keepFixed_29 : decode cX8_keepFixed 29 = .ok (.invokestatic 33, 3) := by decide +kernel
theorem dX8_keepFixed_32 : decode cX8_keepFixed 32 = .ok (.lor, 1) := by decide +kernel
theorem dX8_keepFixed_33 : decode cX8_keepFixed 33 = .ok (.iload_n 1, 1) := by decide +kernel
theorem dX8_keepFixed_34 : decode cX8_keepFixed 34 = .ok (.aload_n 0, 1) := by decide +kernel
theorem dX8_keepFixed_35 : decode cX8_keepFixed 35 = .ok (.getfield 15, 3) := by decide +kernel
theorem dX8_keepFixed_38 : decode cX8_keepFixed 38 = .ok (.iload_n 1, 1) := by decide +kernel
theorem dX8_keepFixed_39 : decode cX8_keepFixed 39 = .ok (.iaload, 1) := by decide +kernel
theorem dX8_keepFixed_40 : decode cX8_keepFixed 40 = .ok (.iconst 0, 1) := by decide +kernel
theorem dX8_keepFixed_41 : decode cX8_keepFixed 41 = .ok (.invokestatic 33, 3) := by decide +kernel
theorem dX8_keepFixed_44 : decode cX8_keepFixed 44 = .ok (.lor, 1) := by decide +kernel
theorem dX8_keepFixed_45 : decode cX8_keepFixed 45 = .ok (.lor, 1) := by decide +kernel
theorem dX8_keepFixed_46 : decode cX8_keepFixed 46 = .ok (.putfield 19, 3) := by decide +kernel
theorem dX8_keepFixed_49 : decode cX8_keepFixed 49 = .ok (.iinc 1 1, 3) := by decide +kernel
theorem dX8_keepFixed_52 : decode cX8_keepFixed 52 = .ok (.goto (-45), 3) := by decide +kernel
theorem dX8_keepFixed_55 : decode cX8_keepFixed 55 = .ok (.return_, 1) := by decide +kernel
theorem dX8_mark_0 : decode cX8_mark 0 = .ok (.aload_n 0, 1) := by decide +kernel
theorem dX8_mark_1 : decode cX8_mark 1 = .ok (.iload_n 1, 1) := by decide +kernel
theorem dX8_mark_2 : decode cX8_mark 2 = .ok (.iload_n 2, 1) := by decide +kernel
theorem dX8_mark_3 : decode cX8_mark 3 = .ok (.iload_n 3, 1) := by decide +kernel
theorem dX8_mark_4 : decode cX8_mark 4 = .ok (.invokevirtual 37, 3) := by decide +kernel
theorem dX8_mark_7 : decode cX8_mark 7 = .ok (.lstore 5, 2) := by decide +kernel
theorem dX8_mark_9 : decode cX8_mark 9 = .ok (.aload_n 0, 1) := by decide +kernel
theorem dX8_mark_10 : decode cX8_mark 10 = .ok (.getfield 19, 3) := by decide +kernel
theorem dX8_mark_13 : decode cX8_mark 13 = .ok (.lstore 7, 2) := by decide +kernel
theorem dX8_mark_15 : decode cX8_mark 15 = .ok (.aload_n 0, 1) := by decide +kernel
theorem dX8_mark_16 : decode cX8_mark 16 = .ok (.iload 4, 2) := by decide +kernel
theorem dX8_mark_18 : decode cX8_mark 18 = .ok (.ifCond .eq 13, 3) := by decide +kernel
theorem dX8_mark_21 : decode cX8_mark 21 = .ok (.aload_n 0, 1) := by decide +kernel
theorem dX8_mark_22 : decode cX8_mark 22 = .ok (.getfield 19, 3) := by decide +kernel
theorem dX8_mark_25 : decode cX8_mark 25 = .ok (.lload 5, 2) := by decide +kernel
theorem dX8_mark_27 : decode cX8_mark 27 = .ok (.lor, 1) := by decide +kernel
theorem dX8_mark_28 : decode cX8_mark 28 = .ok (.goto 14, 3) := by decide +kernel
theorem dX8_mark_31 : decode cX8_mark 31 = .ok (.aload_n 0, 1) := by decide +kernel
theorem dX8_mark_32 : decode cX8_mark 32 = .ok (.getfield 19, 3) := by decide +kernel
theorem dX8_mark_35 : decode cX8_mark 35 = .ok (.lload 5, 2) := by decide +kernel
theorem dX8_mark_37 : decode cX8_mark 37 = .ok (.ldc2_w 40, 3) := by decide +kernel
theorem dX8_mark_40 : decode cX8_mark 40 = .ok (.lxor, 1) := by decide +kernel
theorem dX8_mark_41 : decode cX8_mark 41 = .ok (.land, 1) := by decide +kernel
theorem dX8_mark_42 : decode cX8_mark 42 = .ok (.putfield 19, 3) := by decide +kernel
theorem dX8_mark_45 : decode cX8_mark 45 = .ok (.lload 7, 2) := by decide +kernel
theorem dX8_mark_47 : decode cX8_mark 47 = .ok (.aload_n 0, 1) := by decide +kernel
theorem dX8_mark_48 : decode cX8_mark 48 = .ok (.getfield 19, 3) := by decide +kernel
theorem dX8_mark_51 : decode cX8_mark 51 = .ok (.lxor, 1) := by decide +kernel
theorem dX8_mark_52 : decode cX8_mark 52 = .ok (.invokestatic 42, 3) := by decide +kernel
theorem dX8_mark_55 : decode cX8_mark 55 = .ok (.ireturn, 1) := by decide +kernel
theorem dX8_mirrored_0 : decode cX8_mirrored 0 = .ok (.iconst 0, 1) := by decide +kernel
theorem dX8_mirrored_1 : decode cX8_mirrored 1 = .ok (.istore_n 2, 1) := by decide +kernel
theorem dX8_mirrored_2 : decode cX8_mirrored 2 = .ok (.iconst 0, 1) := by decide +kernel
theorem dX8_mirrored_3 : decode cX8_mirrored 3 = .ok (.istore_n 3, 1) := by decide +kernel
theorem dX8_mirrored_4 : decode cX8_mirrored 4 = .ok (.iload_n 3, 1) := by decide +kernel
theorem dX8_mirrored_5 : decode cX8_mirrored 5 = .ok (.aload_n 0, 1) := by decide +kernel
theorem dX8_mirrored_6 : decode cX8_mirrored 6 = .ok (.getfield 9, 3) := by decide +kernel
theorem dX8_mirrored_9 : decode cX8_mirrored 9 = .ok (.if_icmp .ge 29, 3) := by decide +kernel
theorem dX8_mirrored_12 : decode cX8_mirrored 12 = .ok (.iload_n 1, 1) := by decide +kernel
theorem dX8_mirrored_13 : decode cX8_mirrored 13 = .ok (.iload_n 3, 1) := by decide +kernel
theorem dX8_mirrored_14 : decode cX8_mirrored 14 = .ok (.ishr, 1) := by decide +kernel
theorem dX8_mirrored_15 : decode cX8_mirrored 15 = .ok (.iconst 1, 1) := by decide +kernel
theorem dX8_mirrored_16 : decode cX8_mirrored 16 = .ok (.iand, 1) := by decide +kernel
theorem dX8_mirrored_17 : decode cX8_mirrored 17 = .ok (.iconst 1, 1) := by decide +kernel
theorem dX8_mirrored_18 : decode cX8_mirrored 18 = .ok (.if_icmp .ne 14, 3) := by decide +kernel
theorem dX8_mirrored_21 : decode cX8_mirrored 21 = .ok (.iload_n 2, 1) := by decide +kernel
theorem dX8_mirrored_22 : decode cX8_mirrored 22 = .ok (.iconst 1, 1) := by decide +kernel
theorem dX8_mirrored_23 : decode cX8_mirrored 23 = .ok (.aload_n 0, 1) := by decide +kernel
theorem dX8_mirrored_24 : decode cX8_mirrored 24 = .ok (.getfield 15, 3) := by decide +kernel
theorem dX8_mirrored_27 : decode cX8_mirrored 27 = .ok (.iload_n 3, 1) := by decide +kernel
theorem dX8_mirrored_28 : decode cX8_mirrored 28 = .ok (.iaload, 1) := by decide +kernel
theorem dX8_mirrored_29 : decode cX8_mirrored 29 = .ok (.ishl, 1) := by decide +kernel
theorem dX8_mirrored_30 : decode cX8_mirrored 30 = .ok (.ior, 1) := by decide +kernel
theorem dX8_mirrored_31 : decode cX8_mirrored 31 = .ok (.istore_n 2, 1) := by decide +kernel
theorem dX8_mirrored_32 : decode cX8_mirrored 32 = .ok (.iinc 3 1, 3) := by decide +kernel
theorem dX8_mirrored_35 : decode cX8_mirrored 35 = .ok (.goto (-31), 3) := by decide +kernel
theorem dX8_mirrored_38 : decode cX8_mirrored 38 = .ok (.iload_n 2, 1) := by decide +kernel
theorem dX8_mirrored_39 : decode cX8_mirrored 39 = .ok (.ireturn, 1) := by decide +kernel
theorem dX8_pairsInto_0 : decode cX8_pairsInto 0 = .ok (.iconst 0, 1) := by decide +kernel
theorem dX8_pairsInto_1 : decode cX8_pairsInto 1 = .ok (.istore_n 2, 1) := by decide +kernel
theorem dX8_pairsInto_2 : decode cX8_pairsInto 2 = .ok (.iconst 0, 1) := by decide +kernel
theorem dX8_pairsInto_3 : decode cX8_pairsInto 3 = .ok (.istore_n 3, 1) := by decide +kernel
theorem dX8_pairsInto_4 : decode cX8_pairsInto 4 = .ok (.iload_n 3, 1) := by decide +kernel
theorem dX8_pairsInto_5 : decode cX8_pairsInto 5 = .ok (.aload_n 0, 1) := by decide +kernel
theorem dX8_pairsInto_6 : decode cX8_pairsInto 6 = .ok (.getfield 9, 3) := by decide +kernel
theorem dX8_pairsInto_9 : decode cX8_pairsInto 9 = .ok (.if_icmp .ge 49, 3) := by decide +kernel
theorem dX8_pairsInto_12 : decode cX8_pairsInto 12 = .ok (.iconst 0, 1) := by decide +kernel
theorem dX8_pairsInto_13 : decode cX8_pairsInto 13 = .ok (.istore 4, 2) := by decide +kernel
theorem dX8_pairsInto_15 : decode cX8_pairsInto 15 = .ok (.iload 4, 2) := by decide +kernel
theorem dX8_pairsInto_17 : decode cX8_pairsInto 17 = .ok (.aload_n 0, 1) := by decide +kernel
theorem dX8_pairsInto_18 : decode cX8_pairsInto 18 = .ok (.getfield 9, 3) := by decide +kernel
theorem dX8_pairsInto_21 : decode cX8_pairsInto 21 = .ok (.if_icmp .ge 31, 3) := by decide +kernel
theorem dX8_pairsInto_24 : decode cX8_pairsInto 24 = .ok (.aload_n 0, 1) := by decide +kernel
theorem dX8_pairsInto_25 : decode cX8_pairsInto 25 = .ok (.iload_n 3, 1) := by decide +kernel
theorem dX8_pairsInto_26 : decode cX8_pairsInto 26 = .ok (.iload 4, 2) := by decide +kernel
theorem dX8_pairsInto_28 : decode cX8_pairsInto 28 = .ok (.iload_n 1, 1) := by decide +kernel
theorem dX8_pairsInto_29 : decode cX8_pairsInto 29 = .ok (.invokevirtual 71, 3) := by decide +kernel
theorem dX8_pairsInto_32 : decode cX8_pairsInto 32 = .ok (.ifCond .eq 14, 3) := by decide +kernel
theorem dX8_pairsInto_35 : decode cX8_pairsInto 35 = .ok (.iload_n 2, 1) := by decide +kernel
theorem dX8_pairsInto_36 : decode cX8_pairsInto 36 = .ok (.iconst 1, 1) := by decide +kernel
theorem dX8_pairsInto_37 : decode cX8_pairsInto 37 = .ok (.iconst 4, 1) := by decide +kernel
theorem dX8_pairsInto_38 : decode cX8_pairsInto 38 = .ok (.iload_n 3, 1) := by decide +kernel
theorem dX8_pairsInto_39 : decode cX8_pairsInto 39 = .ok (.imul, 1) := by decide +kernel
theorem dX8_pairsInto_40 : decode cX8_pairsInto 40 = .ok (.iload 4, 2) := by decide +kernel
theorem dX8_pairsInto_42 : decode cX8_pairsInto 42 = .ok (.iadd, 1) := by decide +kernel
theorem dX8_pairsInto_43 : decode cX8_pairsInto 43 = .ok (.ishl, 1) := by decide +kernel
theorem dX8_pairsInto_44 : decode cX8_pairsInto 44 = .ok (.ior, 1) := by decide +kernel
theorem dX8_pairsInto_45 : decode cX8_pairsInto 45 = .ok (.istore_n 2, 1) := by decide +kernel
theorem dX8_pairsInto_46 : decode cX8_pairsInto 46 = .ok (.iinc 4 1, 3) := by decide +kernel
theorem dX8_pairsInto_49 : decode cX8_pairsInto 49 = .ok (.goto (-34), 3) := by decide +kernel
theorem dX8_pairsInto_52 : decode cX8_pairsInto 52 = .ok (.iinc 3 1, 3) := by decide +kernel
theorem dX8_pairsInto_55 : decode cX8_pairsInto 55 = .ok (.goto (-51), 3) := by decide +kernel
theorem dX8_pairsInto_58 : decode cX8_pairsInto 58 = .ok (.iload_n 2, 1) := by decide +kernel
theorem dX8_pairsInto_59 : decode cX8_pairsInto 59 = .ok (.ireturn, 1) := by decide +kernel
theorem dX8_powers_0 : decode cX8_powers 0 = .ok (.iconst 0, 1) := by decide +kernel
theorem dX8_powers_1 : decode cX8_powers 1 = .ok (.istore_n 3, 1) := by decide +kernel
theorem dX8_powers_2 : decode cX8_powers 2 = .ok (.iload_n 1, 1) := by decide +kernel
theorem dX8_powers_3 : decode cX8_powers 3 = .ok (.istore 4, 2) := by decide +kernel
theorem dX8_powers_5 : decode cX8_powers 5 = .ok (.iconst 0, 1) := by decide +kernel
theorem dX8_powers_6 : decode cX8_powers 6 = .ok (.istore 5, 2) := by decide +kernel
theorem dX8_powers_8 : decode cX8_powers 8 = .ok (.iload 5, 2) := by decide +kernel
theorem dX8_powers_10 : decode cX8_powers 10 = .ok (.aload_n 0, 1) := by decide +kernel
theorem dX8_powers_11 : decode cX8_powers 11 = .ok (.invokevirtual 56, 3) := by decide +kernel
theorem dX8_powers_14 : decode cX8_powers 14 = .ok (.if_icmp .ge 34, 3) := by decide +kernel
theorem dX8_powers_17 : decode cX8_powers 17 = .ok (.iload_n 3, 1) := by decide +kernel
theorem dX8_powers_18 : decode cX8_powers 18 = .ok (.iload 4, 2) := by decide +kernel
theorem dX8_powers_20 : decode cX8_powers 20 = .ok (.ishr, 1) := by decide +kernel
theorem dX8_powers_21 : decode cX8_powers 21 = .ok (.iconst 1, 1) := by decide +kernel
theorem dX8_powers_22 : decode cX8_powers 22 = .ok (.iand, 1) := by decide +kernel
theorem dX8_powers_23 : decode cX8_powers 23 = .ok (.ifCond .ne 25, 3) := by decide +kernel
theorem dX8_powers_26 : decode cX8_powers 26 = .ok (.iload_n 3, 1) := by decide +kernel
theorem dX8_powers_27 : decode cX8_powers 27 = .ok (.iconst 1, 1) := by decide +kernel
theorem dX8_powers_28 : decode cX8_powers 28 = .ok (.iload 4, 2) := by decide +kernel
theorem dX8_powers_30 : decode cX8_powers 30 = .ok (.ishl, 1) := by decide +kernel
theorem dX8_powers_31 : decode cX8_powers 31 = .ok (.ior, 1) := by decide +kernel
theorem dX8_powers_32 : decode cX8_powers 32 = .ok (.istore_n 3, 1) := by decide +kernel
theorem dX8_powers_33 : decode cX8_powers 33 = .ok (.aload_n 0, 1) := by decide +kernel
theorem dX8_powers_34 : decode cX8_powers 34 = .ok (.iload 4, 2) := by decide +kernel
theorem dX8_powers_36 : decode cX8_powers 36 = .ok (.iload_n 1, 1) := by decide +kernel
theorem dX8_powers_37 : decode cX8_powers 37 = .ok (.invokevirtual 48, 3) := by decide +kernel
theorem dX8_powers_40 : decode cX8_powers 40 = .ok (.istore 4, 2) := by decide +kernel
theorem dX8_powers_42 : decode cX8_powers 42 = .ok (.iinc 5 1, 3) := by decide +kernel
theorem dX8_powers_45 : decode cX8_powers 45 = .ok (.goto (-37), 3) := by decide +kernel
theorem dX8_powers_48 : decode cX8_powers 48 = .ok (.iconst 0, 1) := by decide +kernel
theorem dX8_powers_49 : decode cX8_powers 49 = .ok (.istore 6, 2) := by decide +kernel
theorem dX8_powers_51 : decode cX8_powers 51 = .ok (.iload_n 1, 1) := by decide +kernel
theorem dX8_powers_52 : decode cX8_powers 52 = .ok (.istore 7, 2) := by decide +kernel
theorem dX8_powers_54 : decode cX8_powers 54 = .ok (.iload 6, 2) := by decide +kernel
theorem dX8_powers_56 : decode cX8_powers 56 = .ok (.iload 5, 2) := by decide +kernel
theorem dX8_powers_58 : decode cX8_powers 58 = .ok (.if_icmp .ge 25, 3) := by decide +kernel
theorem dX8_powers_61 : decode cX8_powers 61 = .ok (.iload 7, 2) := by decide +kernel
theorem dX8_powers_63 : decode cX8_powers 63 = .ok (.iload 4, 2) := by decide +kernel
theorem dX8_powers_65 : decode cX8_powers 65 = .ok (.if_icmp .eq 18, 3) := by decide +kernel
theorem dX8_powers_68 : decode cX8_powers 68 = .ok (.aload_n 0, 1) := by decide +kernel
theorem dX8_powers_69 : decode cX8_powers 69 = .ok (.iload 7, 2) := by decide +kernel
theorem dX8_powers_71 : decode cX8_powers 71 = .ok (.iload_n 1, 1) := by decide +kernel
theorem dX8_powers_72 : decode cX8_powers 72 = .ok (.invokevirtual 48, 3) := by decide +kernel
theorem dX8_powers_75 : decode cX8_powers 75 = .ok (.istore 7, 2) := by decide +kernel
theorem dX8_powers_77 : decode cX8_powers 77 = .ok (.iinc 6 1, 3) := by decide +kernel
theorem dX8_powers_80 : decode cX8_powers 80 = .ok (.goto (-26), 3) := by decide +kernel
theorem dX8_powers_83 : decode cX8_powers 83 = .ok (.iload_n 2, 1) := by decide +kernel
theorem dX8_powers_84 : decode cX8_powers 84 = .ok (.ifCond .eq 8, 3) := by decide +kernel
theorem dX8_powers_87 : decode cX8_powers 87 = .ok (.iload 6, 2) := by decide +kernel
theorem dX8_powers_89 : decode cX8_powers 89 = .ok (.goto 8, 3) := by decide +kernel
theorem dX8_powers_92 : decode cX8_powers 92 = .ok (.iload 5, 2) := by decide +kernel
theorem dX8_powers_94 : decode cX8_powers 94 = .ok (.iload 6, 2) := by decide +kernel
theorem dX8_powers_96 : decode cX8_powers 96 = .ok (.isub, 1) := by decide +kernel
theorem dX8_powers_97 : decode cX8_powers 97 = .ok (.ireturn, 1) := by decide +kernel
theorem dX8_product_0 : decode cX8_product 0 = .ok (.iconst 0, 1) := by decide +kernel
theorem dX8_product_1 : decode cX8_product 1 = .ok (.istore_n 3, 1) := by decide +kernel
theorem dX8_product_2 : decode cX8_product 2 = .ok (.iconst 0, 1) := by decide +kernel
theorem dX8_product_3 : decode cX8_product 3 = .ok (.istore 4, 2) := by decide +kernel
theorem dX8_product_5 : decode cX8_product 5 = .ok (.iload 4, 2) := by decide +kernel
theorem dX8_product_7 : decode cX8_product 7 = .ok (.aload_n 0, 1) := by decide +kernel
theorem dX8_product_8 : decode cX8_product 8 = .ok (.getfield 9, 3) := by decide +kernel
theorem dX8_product_11 : decode cX8_product 11 = .ok (.if_icmp .ge 69, 3) := by decide +kernel
theorem dX8_product_14 : decode cX8_product 14 = .ok (.iconst 0, 1) := by decide +kernel
theorem dX8_product_15 : decode cX8_product 15 = .ok (.istore 5, 2) := by decide +kernel
theorem dX8_product_17 : decode cX8_product 17 = .ok (.iload 5, 2) := by decide +kernel
theorem dX8_product_19 : decode cX8_product 19 = .ok (.aload_n 0, 1) := by decide +kernel
theorem dX8_product_20 : decode cX8_product 20 = .ok (.getfield 9, 3) := by decide +kernel
theorem dX8_product_23 : decode cX8_product 23 = .ok (.if_icmp .ge 51, 3) := by decide +kernel
theorem dX8_product_26 : decode cX8_product 26 = .ok (.iload_n 1, 1) := by decide +kernel
theorem dX8_product_27 : decode cX8_product 27 = .ok (.iload 4, 2) := by decide +kernel
theorem dX8_product_29 : decode cX8_product 29 = .ok (.ishr, 1) := by decide +kernel
theorem dX8_product_30 : decode cX8_product 30 = .ok (.iconst 1, 1) := by decide +kernel
theorem dX8_product_31 : decode cX8_product 31 = .ok (.iand, 1) := by decide +kernel
theorem dX8_product_32 : decode cX8_product 32 = .ok (.iconst 1, 1) := by decide +kernel
theorem dX8_product_33 : decode cX8_product 33 = .ok (.if_icmp .ne 35, 3) := by decide +kernel
theorem dX8_product_36 : decode cX8_product 36 = .ok (.iload_n 2, 1) := by decide +kernel
theorem dX8_product_37 : decode cX8_product 37 = .ok (.iload 5, 2) := by decide +kernel
theorem dX8_product_39 : decode cX8_product 39 = .ok (.ishr, 1) := by decide +kernel
theorem dX8_product_40 : decode cX8_product 40 = .ok (.iconst 1, 1) := by decide +kernel
theorem dX8_product_41 : decode cX8_product 41 = .ok (.iand, 1) := by decide +kernel
theorem dX8_product_42 : decode cX8_product 42 = .ok (.iconst 1, 1) := by decide +kernel
theorem dX8_product_43 : decode cX8_product 43 = .ok (.if_icmp .ne 25, 3) := by decide +kernel
theorem dX8_product_46 : decode cX8_product 46 = .ok (.iload_n 3, 1) := by decide +kernel
theorem dX8_product_47 : decode cX8_product 47 = .ok (.aload_n 0, 1) := by decide +kernel
theorem dX8_product_48 : decode cX8_product 48 = .ok (.getfield 19, 3) := by decide +kernel
theorem dX8_product_51 : decode cX8_product 51 = .ok (.bipush 16, 2) := by decide +kernel
theorem dX8_product_53 : decode cX8_product 53 = .ok (.iload 4, 2) := by decide +kernel
theorem dX8_product_55 : decode cX8_product 55 = .ok (.imul, 1) := by decide +kernel
theorem dX8_product_56 : decode cX8_product 56 = .ok (.iconst 4, 1) := by decide +kernel
theorem dX8_product_57 : decode cX8_product 57 = .ok (.iload 5, 2) := by decide +kernel
theorem dX8_product_59 : decode cX8_product 59 = .ok (.imul, 1) := by decide +kernel
theorem dX8_product_60 : decode cX8_product 60 = .ok (.iadd, 1) := by decide +kernel
theorem dX8_product_61 : decode cX8_product 61 = .ok (.lushr, 1) := by decide +kernel
theorem dX8_product_62 : decode cX8_product 62 = .ok (.l2i, 1) := by decide +kernel
theorem dX8_product_63 : decode cX8_product 63 = .ok (.bipush 15, 2) := by decide +kernel
theorem dX8_product_65 : decode cX8_product 65 = .ok (.iand, 1) := by decide +kernel
theorem dX8_product_66 : decode cX8_product 66 = .ok (.ior, 1) := by decide +kernel
theorem dX8_product_67 : decode cX8_product 67 = .ok (.istore_n 3, 1) := by decide +kernel
theorem dX8_product_68 : decode cX8_product 68 = .ok (.iinc 5 1, 3) := by decide +kernel
theorem dX8_product_71 : decode cX8_product 71 = .ok (.goto (-54), 3) := by decide +kernel
theorem dX8_product_74 : decode cX8_product 74 = .ok (.iinc 4 1, 3) := by decide +kernel
theorem dX8_product_77 : decode cX8_product 77 = .ok (.goto (-72), 3) := by decide +kernel
theorem dX8_product_80 : decode cX8_product 80 = .ok (.iload_n 3, 1) := by decide +kernel
theorem dX8_product_81 : decode cX8_product 81 = .ok (.ireturn, 1) := by decide +kernel
theorem dX8_relations_0 : decode cX8_relations 0 = .ok (.iconst 1, 1) := by decide +kernel
theorem dX8_relations_1 : decode cX8_relations 1 = .ok (.aload_n 0, 1) := by decide +kernel
theorem dX8_relations_2 : decode cX8_relations 2 = .ok (.getfield 9, 3) := by decide +kernel
theorem dX8_relations_5 : decode cX8_relations 5 = .ok (.ishl, 1) := by decide +kernel
theorem dX8_relations_6 : decode cX8_relations 6 = .ok (.ireturn, 1) := by decide +kernel
theorem dX8_residual_0 : decode cX8_residual 0 = .ok (.iconst 0, 1) := by decide +kernel
theorem dX8_residual_1 : decode cX8_residual 1 = .ok (.istore 4, 2) := by decide +kernel
theorem dX8_residual_3 : decode cX8_residual 3 = .ok (.iconst 0, 1) := by decide +kernel
theorem dX8_residual_4 : decode cX8_residual 4 = .ok (.istore 5, 2) := by decide +kernel
theorem dX8_residual_6 : decode cX8_residual 6 = .ok (.iload 5, 2) := by decide +kernel
theorem dX8_residual_8 : decode cX8_residual 8 = .ok (.aload_n 0, 1) := by decide +kernel
theorem dX8_residual_9 : decode cX8_residual 9 = .ok (.getfield 9, 3) := by decide +kernel
theorem dX8_residual_12 : decode cX8_residual 12 = .ok (.if_icmp .ge 35, 3) := by decide +kernel
theorem dX8_residual_15 : decode cX8_residual 15 = .ok (.aload_n 0, 1) := by decide +kernel
theorem dX8_residual_16 : decode cX8_residual 16 = .ok (.iconst 1, 1) := by decide +kernel
theorem dX8_residual_17 : decode cX8_residual 17 = .ok (.iload 5, 2) := by decide +kernel
theorem dX8_residual_19 : decode cX8_residual 19 = .ok (.ishl, 1) := by decide +kernel
theorem dX8_residual_20 : decode cX8_residual 20 = .ok (.iload_n 2, 1) := by decide +kernel
theorem dX8_residual_21 : decode cX8_residual 21 = .ok (.iload_n 3, 1) := by decide +kernel
theorem dX8_residual_22 : decode cX8_residual 22 = .ok (.invokevirtual 52, 3) := by decide +kernel
theorem dX8_residual_25 : decode cX8_residual 25 = .ok (.iload_n 1, 1) := by decide +kernel
theorem dX8_residual_26 : decode cX8_residual 26 = .ok (.iconst (-1), 1) := by decide +kernel
theorem dX8_residual_27 : decode cX8_residual 27 = .ok (.ixor, 1) := by decide +kernel
theorem dX8_residual_28 : decode cX8_residual 28 = .ok (.iand, 1) := by decide +kernel
theorem dX8_residual_29 : decode cX8_residual 29 = .ok (.ifCond .ne 12, 3) := by decide +kernel
theorem dX8_residual_32 : decode cX8_residual 32 = .ok (.iload 4, 2) := by decide +kernel
theorem dX8_residual_34 : decode cX8_residual 34 = .ok (.iconst 1, 1) := by decide +kernel
theorem dX8_residual_35 : decode cX8_residual 35 = .ok (.iload 5, 2) := by decide +kernel
theorem dX8_residual_37 : decode cX8_residual 37 = .ok (.ishl, 1) := by decide +kernel
theorem dX8_residual_38 : decode cX8_residual 38 = .ok (.ior, 1) := by decide +kernel
theorem dX8_residual_39 : decode cX8_residual 39 = .ok (.istore 4, 2) := by decide +kernel
theorem dX8_residual_41 : decode cX8_residual 41 = .ok (.iinc 5 1, 3) := by decide +kernel
theorem dX8_residual_44 : decode cX8_residual 44 = .ok (.goto (-38), 3) := by decide +kernel
theorem dX8_residual_47 : decode cX8_residual 47 = .ok (.iload 4, 2) := by decide +kernel
theorem dX8_residual_49 : decode cX8_residual 49 = .ok (.ireturn, 1) := by decide +kernel
theorem dX8_restart_0 : decode cX8_restart 0 = .ok (.aload_n 0, 1) := by decide +kernel
theorem dX8_restart_1 : decode cX8_restart 1 = .ok (.iload_n 1, 1) := by decide +kernel
theorem dX8_restart_2 : decode cX8_restart 2 = .ok (.putfield 9, 3) := by decide +kernel
theorem dX8_restart_5 : decode cX8_restart 5 = .ok (.iconst 0, 1) := by decide +kernel
theorem dX8_restart_6 : decode cX8_restart 6 = .ok (.istore_n 2, 1) := by decide +kernel
theorem dX8_restart_7 : decode cX8_restart 7 = .ok (.iload_n 2, 1) := by decide +kernel
theorem dX8_restart_8 : decode cX8_restart 8 = .ok (.iconst 4, 1) := by decide +kernel
theorem dX8_restart_9 : decode cX8_restart 9 = .ok (.if_icmp .ge 16, 3) := by decide +kernel
theorem dX8_restart_12 : decode cX8_restart 12 = .ok (.aload_n 0, 1) := by decide +kernel
theorem dX8_restart_13 : decode cX8_restart 13 = .ok (.getfield 15, 3) := by decide +kernel
theorem dX8_restart_16 : decode cX8_restart 16 = .ok (.iload_n 2, 1) := by decide +kernel
theorem dX8_restart_17 : decode cX8_restart 17 = .ok (.iload_n 2, 1) := by decide +kernel
theorem dX8_restart_18 : decode cX8_restart 18 = .ok (.iastore, 1) := by decide +kernel
theorem dX8_restart_19 : decode cX8_restart 19 = .ok (.iinc 2 1, 3) := by decide +kernel
theorem dX8_restart_22 : decode cX8_restart 22 = .ok (.goto (-15), 3) := by decide +kernel
theorem dX8_restart_25 : decode cX8_restart 25 = .ok (.aload_n 0, 1) := by decide +kernel
theorem dX8_restart_26 : decode cX8_restart 26 = .ok (.invokevirtual 27, 3) := by decide +kernel
theorem dX8_restart_29 : decode cX8_restart 29 = .ok (.return_, 1) := by decide +kernel
theorem dX8_sided_0 : decode cX8_sided 0 = .ok (.iload_n 3, 1) := by decide +kernel
theorem dX8_sided_1 : decode cX8_sided 1 = .ok (.ifCond .ne 12, 3) := by decide +kernel
theorem dX8_sided_4 : decode cX8_sided 4 = .ok (.aload_n 0, 1) := by decide +kernel
theorem dX8_sided_5 : decode cX8_sided 5 = .ok (.iload_n 1, 1) := by decide +kernel
theorem dX8_sided_6 : decode cX8_sided 6 = .ok (.iload_n 2, 1) := by decide +kernel
theorem dX8_sided_7 : decode cX8_sided 7 = .ok (.invokevirtual 48, 3) := by decide +kernel
theorem dX8_sided_10 : decode cX8_sided 10 = .ok (.goto 9, 3) := by decide +kernel
theorem dX8_sided_13 : decode cX8_sided 13 = .ok (.aload_n 0, 1) := by decide +kernel
theorem dX8_sided_14 : decode cX8_sided 14 = .ok (.iload_n 2, 1) := by decide +kernel
theorem dX8_sided_15 : decode cX8_sided 15 = .ok (.iload_n 1, 1) := by decide +kernel
theorem dX8_sided_16 : decode cX8_sided 16 = .ok (.invokevirtual 48, 3) := by decide +kernel
theorem dX8_sided_19 : decode cX8_sided 19 = .ok (.ireturn, 1) := by decide +kernel
theorem dX8_solutions_0 : decode cX8_solutions 0 = .ok (.iconst 0, 1) := by decide +kernel
theorem dX8_solutions_1 : decode cX8_solutions 1 = .ok (.istore 5, 2) := by decide +kernel
theorem dX8_solutions_3 : decode cX8_solutions 3 = .ok (.bipush (-5), 2) := by decide +kernel
theorem dX8_solutions_5 : decode cX8_solutions 5 = .ok (.istore 6, 2) := by decide +kernel
theorem dX8_solutions_7 : decode cX8_solutions 7 = .ok (.iconst 0, 1) := by decide +kernel
theorem dX8_solutions_8 : decode cX8_solutions 8 = .ok (.istore 7, 2) := by decide +kernel
theorem dX8_solutions_10 : decode cX8_solutions 10 = .ok (.iconst 0, 1) := by decide +kernel
theorem dX8_solutions_11 : decode cX8_solutions 11 = .ok (.istore 8, 2) := by decide +kernel
theorem dX8_solutions_13 : decode cX8_solutions 13 = .ok (.iload 8, 2) := by decide +kernel
theorem dX8_solutions_15 : decode cX8_solutions 15 = .ok (.aload_n 0, 1) := by decide +kernel
theorem dX8_solutions_16 : decode cX8_solutions 16 = .ok (.invokevirtual 56, 3) := by decide +kernel
theorem dX8_solutions_19 : decode cX8_solutions 19 = .ok (.if_icmp .ge 45, 3) := by decide +kernel
theorem dX8_solutions_22 : decode cX8_solutions 22 = .ok (.aload_n 0, 1) := by decide +kernel
theorem dX8_solutions_23 : decode cX8_solutions 23 = .ok (.iload 8, 2) := by decide +kernel
theorem dX8_solutions_25 : decode cX8_solutions 25 = .ok (.iload_n 1, 1) := by decide +kernel
theorem dX8_solutions_26 : decode cX8_solutions 26 = .ok (.iload_n 3, 1) := by decide +kernel
theorem dX8_solutions_27 : decode cX8_solutions 27 = .ok (.invokevirtual 52, 3) := by decide +kernel
theorem dX8_solutions_30 : decode cX8_solutions 30 = .ok (.iload_n 2, 1) := by decide +kernel
theorem dX8_solutions_31 : decode cX8_solutions 31 = .ok (.if_icmp .ne 27, 3) := by decide +kernel
theorem dX8_solutions_34 : decode cX8_solutions 34 = .ok (.iload 5, 2) := by decide +kernel
theorem dX8_solutions_36 : decode cX8_solutions 36 = .ok (.ifCond .ne 8, 3) := by decide +kernel
theorem dX8_solutions_39 : decode cX8_solutions 39 = .ok (.iload 8, 2) := by decide +kernel
theorem dX8_solutions_41 : decode cX8_solutions 41 = .ok (.goto 5, 3) := by decide +kernel
theorem dX8_solutions_44 : decode cX8_solutions 44 = .ok (.iload 6, 2) := by decide +kernel
theorem dX8_solutions_46 : decode cX8_solutions 46 = .ok (.istore 6, 2) := by decide +kernel
theorem dX8_solutions_48 : decode cX8_solutions 48 = .ok (.iinc 5 1, 3) := by decide +kernel
theorem dX8_solutions_51 : decode cX8_solutions 51 = .ok (.iload 7, 2) := by decide +kernel
theorem dX8_solutions_53 : decode cX8_solutions 53 = .ok (.iload 8, 2) := by decide +kernel
theorem dX8_solutions_55 : decode cX8_solutions 55 = .ok (.ior, 1) := by decide +kernel
theorem dX8_solutions_56 : decode cX8_solutions 56 = .ok (.istore 7, 2) := by decide +kernel
theorem dX8_solutions_58 : decode cX8_solutions 58 = .ok (.iinc 8 1, 3) := by decide +kernel
theorem dX8_solutions_61 : decode cX8_solutions 61 = .ok (.goto (-48), 3) := by decide +kernel
theorem dX8_solutions_64 : decode cX8_solutions 64 = .ok (.iload 4, 2) := by decide +kernel
theorem dX8_solutions_66 : decode cX8_solutions 66 = .ok (.ifCond .ne 6, 3) := by decide +kernel
theorem dX8_solutions_69 : decode cX8_solutions 69 = .ok (.iload 5, 2) := by decide +kernel
theorem dX8_solutions_71 : decode cX8_solutions 71 = .ok (.ireturn, 1) := by decide +kernel
theorem dX8_solutions_72 : decode cX8_solutions 72 = .ok (.iload 4, 2) := by decide +kernel
theorem dX8_solutions_74 : decode cX8_solutions 74 = .ok (.iconst 1, 1) := by decide +kernel
theorem dX8_solutions_75 : decode cX8_solutions 75 = .ok (.if_icmp .eq 8, 3) := by decide +kernel
theorem dX8_solutions_78 : decode cX8_solutions 78 = .ok (.iload 5, 2) := by decide +kernel
theorem dX8_solutions_80 : decode cX8_solutions 80 = .ok (.ifCond .ne 8, 3) := by decide +kernel
theorem dX8_solutions_83 : decode cX8_solutions 83 = .ok (.iload 6, 2) := by decide +kernel
theorem dX8_solutions_85 : decode cX8_solutions 85 = .ok (.goto 5, 3) := by decide +kernel
theorem dX8_solutions_88 : decode cX8_solutions 88 = .ok (.iload 7, 2) := by decide +kernel
theorem dX8_solutions_90 : decode cX8_solutions 90 = .ok (.ireturn, 1) := by decide +kernel
theorem dX8_thin_0 : decode cX8_thin 0 = .ok (.iconst 0, 1) := by decide +kernel
theorem dX8_thin_1 : decode cX8_thin 1 = .ok (.istore_n 2, 1) := by decide +kernel
theorem dX8_thin_2 : decode cX8_thin 2 = .ok (.iconst 0, 1) := by decide +kernel
theorem dX8_thin_3 : decode cX8_thin 3 = .ok (.istore_n 3, 1) := by decide +kernel
theorem dX8_thin_4 : decode cX8_thin 4 = .ok (.iload_n 3, 1) := by decide +kernel
theorem dX8_thin_5 : decode cX8_thin 5 = .ok (.aload_n 0, 1) := by decide +kernel
theorem dX8_thin_6 : decode cX8_thin 6 = .ok (.getfield 9, 3) := by decide +kernel
theorem dX8_thin_9 : decode cX8_thin 9 = .ok (.if_icmp .ge 56, 3) := by decide +kernel
theorem dX8_thin_12 : decode cX8_thin 12 = .ok (.iconst 0, 1) := by decide +kernel
theorem dX8_thin_13 : decode cX8_thin 13 = .ok (.istore 4, 2) := by decide +kernel
theorem dX8_thin_15 : decode cX8_thin 15 = .ok (.iload 4, 2) := by decide +kernel
theorem dX8_thin_17 : decode cX8_thin 17 = .ok (.aload_n 0, 1) := by decide +kernel
theorem dX8_thin_18 : decode cX8_thin 18 = .ok (.getfield 9, 3) := by decide +kernel
theorem dX8_thin_21 : decode cX8_thin 21 = .ok (.if_icmp .ge 38, 3) := by decide +kernel
theorem dX8_thin_24 : decode cX8_thin 24 = .ok (.aload_n 0, 1) := by decide +kernel
theorem dX8_thin_25 : decode cX8_thin 25 = .ok (.iconst 1, 1) := by decide +kernel
theorem dX8_thin_26 : decode cX8_thin 26 = .ok (.iload_n 3, 1) := by decide +kernel
theorem dX8_thin_27 : decode cX8_thin 27 = .ok (.ishl, 1) := by decide +kernel
theorem dX8_thin_28 : decode cX8_thin 28 = .ok (.iconst 1, 1) := by decide +kernel
theorem dX8_thin_29 : decode cX8_thin 29 = .ok (.iload 4, 2) := by decide +kernel
theorem dX8_thin_31 : decode cX8_thin 31 = .ok (.ishl, 1) := by decide +kernel
theorem dX8_thin_32 : decode cX8_thin 32 = .ok (.invokevirtual 48, 3) := by decide +kernel
theorem dX8_thin_35 : decode cX8_thin 35 = .ok (.ifCond .ne 18, 3) := by decide +kernel
theorem dX8_thin_38 : decode cX8_thin 38 = .ok (.iload_n 1, 1) := by decide +kernel
theorem dX8_thin_39 : decode cX8_thin 39 = .ok (.ifCond .ne 11, 3) := by decide +kernel
theorem dX8_thin_42 : decode cX8_thin 42 = .ok (.bipush 10, 2) := by decide +kernel
theorem dX8_thin_44 : decode cX8_thin 44 = .ok (.iload_n 3, 1) := by decide +kernel
theorem dX8_thin_45 : decode cX8_thin 45 = .ok (.imul, 1) := by decide +kernel
theorem dX8_thin_46 : decode cX8_thin 46 = .ok (.iload 4, 2) := by decide +kernel
theorem dX8_thin_48 : decode cX8_thin 48 = .ok (.iadd, 1) := by decide +kernel
theorem dX8_thin_49 : decode cX8_thin 49 = .ok (.ireturn, 1) := by decide +kernel
theorem dX8_thin_50 : decode cX8_thin 50 = .ok (.iinc 2 1, 3) := by decide +kernel
theorem dX8_thin_53 : decode cX8_thin 53 = .ok (.iinc 4 1, 3) := by decide +kernel
theorem dX8_thin_56 : decode cX8_thin 56 = .ok (.goto (-41), 3) := by decide +kernel
theorem dX8_thin_59 : decode cX8_thin 59 = .ok (.iinc 3 1, 3) := by decide +kernel
theorem dX8_thin_62 : decode cX8_thin 62 = .ok (.goto (-58), 3) := by decide +kernel
theorem dX8_thin_65 : decode cX8_thin 65 = .ok (.iload_n 1, 1) := by decide +kernel
theorem dX8_thin_66 : decode cX8_thin 66 = .ok (.ifCond .eq 7, 3) := by decide +kernel
theorem dX8_thin_69 : decode cX8_thin 69 = .ok (.iload_n 2, 1) := by decide +kernel
theorem dX8_thin_70 : decode cX8_thin 70 = .ok (.goto 5, 3) := by decide +kernel
theorem dX8_thin_73 : decode cX8_thin 73 = .ok (.bipush (-5), 2) := by decide +kernel
theorem dX8_thin_75 : decode cX8_thin 75 = .ok (.ireturn, 1) := by decide +kernel
theorem dX8_turns_0 : decode cX8_turns 0 = .ok (.aload_n 0, 1) := by decide +kernel
theorem dX8_turns_1 : decode cX8_turns 1 = .ok (.getfield 15, 3) := by decide +kernel
theorem dX8_turns_4 : decode cX8_turns 4 = .ok (.iload_n 1, 1) := by decide +kernel
theorem dX8_turns_5 : decode cX8_turns 5 = .ok (.iaload, 1) := by decide +kernel
theorem dX8_turns_6 : decode cX8_turns 6 = .ok (.istore 4, 2) := by decide +kernel
theorem dX8_turns_8 : decode cX8_turns 8 = .ok (.aload_n 0, 1) := by decide +kernel
theorem dX8_turns_9 : decode cX8_turns 9 = .ok (.getfield 15, 3) := by decide +kernel
theorem dX8_turns_12 : decode cX8_turns 12 = .ok (.iload_n 2, 1) := by decide +kernel
theorem dX8_turns_13 : decode cX8_turns 13 = .ok (.iaload, 1) := by decide +kernel
theorem dX8_turns_14 : decode cX8_turns 14 = .ok (.istore 5, 2) := by decide +kernel
theorem dX8_turns_16 : decode cX8_turns 16 = .ok (.aload_n 0, 1) := by decide +kernel
theorem dX8_turns_17 : decode cX8_turns 17 = .ok (.getfield 15, 3) := by decide +kernel
theorem dX8_turns_20 : decode cX8_turns 20 = .ok (.iload_n 3, 1) := by decide +kernel
theorem dX8_turns_21 : decode cX8_turns 21 = .ok (.iaload, 1) := by decide +kernel
theorem dX8_turns_22 : decode cX8_turns 22 = .ok (.istore 6, 2) := by decide +kernel
theorem dX8_turns_24 : decode cX8_turns 24 = .ok (.iload_n 1, 1) := by decide +kernel
theorem dX8_turns_25 : decode cX8_turns 25 = .ok (.iload_n 2, 1) := by decide +kernel
theorem dX8_turns_26 : decode cX8_turns 26 = .ok (.iload_n 3, 1) := by decide +kernel
theorem dX8_turns_27 : decode cX8_turns 27 = .ok (.invokestatic 33, 3) := by decide +kernel
theorem dX8_turns_30 : decode cX8_turns 30 = .ok (.iload 4, 2) := by decide +kernel
theorem dX8_turns_32 : decode cX8_turns 32 = .ok (.iload_n 3, 1) := by decide +kernel
theorem dX8_turns_33 : decode cX8_turns 33 = .ok (.iload_n 2, 1) := by decide +kernel
theorem dX8_turns_34 : decode cX8_turns 34 = .ok (.invokestatic 33, 3) := by decide +kernel
theorem dX8_turns_37 : decode cX8_turns 37 = .ok (.lor, 1) := by decide +kernel
theorem dX8_turns_38 : decode cX8_turns 38 = .ok (.iload_n 3, 1) := by decide +kernel
theorem dX8_turns_39 : decode cX8_turns 39 = .ok (.iload 5, 2) := by decide +kernel
theorem dX8_turns_41 : decode cX8_turns 41 = .ok (.iload_n 1, 1) := by decide +kernel
theorem dX8_turns_42 : decode cX8_turns 42 = .ok (.invokestatic 33, 3) := by decide +kernel
theorem dX8_turns_45 : decode cX8_turns 45 = .ok (.lor, 1) := by decide +kernel
theorem dX8_turns_46 : decode cX8_turns 46 = .ok (.iload 5, 2) := by decide +kernel
theorem dX8_turns_48 : decode cX8_turns 48 = .ok (.iload 4, 2) := by decide +kernel
theorem dX8_turns_50 : decode cX8_turns 50 = .ok (.iload 6, 2) := by decide +kernel
theorem dX8_turns_52 : decode cX8_turns 52 = .ok (.invokestatic 33, 3) := by decide +kernel
theorem dX8_turns_55 : decode cX8_turns 55 = .ok (.lor, 1) := by decide +kernel
theorem dX8_turns_56 : decode cX8_turns 56 = .ok (.iload_n 2, 1) := by decide +kernel
theorem dX8_turns_57 : decode cX8_turns 57 = .ok (.iload 6, 2) := by decide +kernel
theorem dX8_turns_59 : decode cX8_turns 59 = .ok (.iload 4, 2) := by decide +kernel
theorem dX8_turns_61 : decode cX8_turns 61 = .ok (.invokestatic 33, 3) := by decide +kernel
theorem dX8_turns_64 : decode cX8_turns 64 = .ok (.lor, 1) := by decide +kernel
theorem dX8_turns_65 : decode cX8_turns 65 = .ok (.iload 6, 2) := by decide +kernel
theorem dX8_turns_67 : decode cX8_turns 67 = .ok (.iload_n 1, 1) := by decide +kernel
theorem dX8_turns_68 : decode cX8_turns 68 = .ok (.iload 5, 2) := by decide +kernel
theorem dX8_turns_70 : decode cX8_turns 70 = .ok (.invokestatic 33, 3) := by decide +kernel
theorem dX8_turns_73 : decode cX8_turns 73 = .ok (.lor, 1) := by decide +kernel
theorem dX8_turns_74 : decode cX8_turns 74 = .ok (.lreturn, 1) := by decide +kernel
theorem dX8_unbalanced_0 : decode cX8_unbalanced 0 = .ok (.iconst 0, 1) := by decide +kernel
theorem dX8_unbalanced_1 : decode cX8_unbalanced 1 = .ok (.istore_n 2, 1) := by decide +kernel
theorem dX8_unbalanced_2 : decode cX8_unbalanced 2 = .ok (.iconst 0, 1) := by decide +kernel
theorem dX8_unbalanced_3 : decode cX8_unbalanced 3 = .ok (.istore_n 3, 1) := by decide +kernel
theorem dX8_unbalanced_4 : decode cX8_unbalanced 4 = .ok (.iload_n 3, 1) := by decide +kernel
theorem dX8_unbalanced_5 : decode cX8_unbalanced 5 = .ok (.aload_n 0, 1) := by decide +kernel
theorem dX8_unbalanced_6 : decode cX8_unbalanced 6 = .ok (.getfield 9, 3) := by decide +kernel
theorem dX8_unbalanced_9 : decode cX8_unbalanced 9 = .ok (.if_icmp .ge 78, 3) := by decide +kernel
theorem dX8_unbalanced_12 : decode cX8_unbalanced 12 = .ok (.iconst 0, 1) := by decide +kernel
theorem dX8_unbalanced_13 : decode cX8_unbalanced 13 = .ok (.istore 4, 2) := by decide +kernel
theorem dX8_unbalanced_15 : decode cX8_unbalanced 15 = .ok (.iload 4, 2) := by decide +kernel
theorem dX8_unbalanced_17 : decode cX8_unbalanced 17 = .ok (.aload_n 0, 1) := by decide +kernel
theorem dX8_unbalanced_18 : decode cX8_unbalanced 18 = .ok (.getfield 9, 3) := by decide +kernel
theorem dX8_unbalanced_21 : decode cX8_unbalanced 21 = .ok (.if_icmp .ge 60, 3) := by decide +kernel
theorem dX8_unbalanced_24 : decode cX8_unbalanced 24 = .ok (.iconst 0, 1) := by decide +kernel
theorem dX8_unbalanced_25 : decode cX8_unbalanced 25 = .ok (.istore 5, 2) := by decide +kernel
theorem dX8_unbalanced_27 : decode cX8_unbalanced 27 = .ok (.iload 5, 2) := by decide +kernel
theorem dX8_unbalanced_29 : decode cX8_unbalanced 29 = .ok (.aload_n 0, 1) := by decide +kernel
theorem dX8_unbalanced_30 : decode cX8_unbalanced 30 = .ok (.getfield 9, 3) := by decide +kernel
theorem dX8_unbalanced_33 : decode cX8_unbalanced 33 = .ok (.if_icmp .ge 42, 3) := by decide +kernel
theorem dX8_unbalanced_36 : decode cX8_unbalanced 36 = .ok (.aload_n 0, 1) := by decide +kernel
theorem dX8_unbalanced_37 : decode cX8_unbalanced 37 = .ok (.iload_n 3, 1) := by decide +kernel
theorem dX8_unbalanced_38 : decode cX8_unbalanced 38 = .ok (.iload 4, 2) := by decide +kernel
theorem dX8_unbalanced_40 : decode cX8_unbalanced 40 = .ok (.iload 5, 2) := by decide +kernel
theorem dX8_unbalanced_42 : decode cX8_unbalanced 42 = .ok (.invokevirtual 64, 3) := by decide +kernel
theorem dX8_unbalanced_45 : decode cX8_unbalanced 45 = .ok (.ifCond .eq 24, 3) := by decide +kernel
theorem dX8_unbalanced_48 : decode cX8_unbalanced 48 = .ok (.iload_n 1, 1) := by decide +kernel
theorem dX8_unbalanced_49 : decode cX8_unbalanced 49 = .ok (.ifCond .ne 17, 3) := by decide +kernel
theorem dX8_unbalanced_52 : decode cX8_unbalanced 52 = .ok (.bipush 100, 2) := by decide +kernel
theorem dX8_unbalanced_54 : decode cX8_unbalanced 54 = .ok (.iload_n 3, 1) := by decide +kernel
theorem dX8_unbalanced_55 : decode cX8_unbalanced 55 = .ok (.imul, 1) := by decide +kernel
theorem dX8_unbalanced_56 : decode cX8_unbalanced 56 = .ok (.bipush 10, 2) := by decide +kernel
theorem dX8_unbalanced_58 : decode cX8_unbalanced 58 = .ok (.iload 4, 2) := by decide +kernel
theorem dX8_unbalanced_60 : decode cX8_unbalanced 60 = .ok (.imul, 1) := by decide +kernel
theorem dX8_unbalanced_61 : decode cX8_unbalanced 61 = .ok (.iadd, 1) := by decide +kernel
theorem dX8_unbalanced_62 : decode cX8_unbalanced 62 = .ok (.iload 5, 2) := by decide +kernel
theorem dX8_unbalanced_64 : decode cX8_unbalanced 64 = .ok (.iadd, 1) := by decide +kernel
theorem dX8_unbalanced_65 : decode cX8_unbalanced 65 = .ok (.ireturn, 1) := by decide +kernel
theorem dX8_unbalanced_66 : decode cX8_unbalanced 66 = .ok (.iinc 2 1, 3) := by decide +kernel
theorem dX8_unbalanced_69 : decode cX8_unbalanced 69 = .ok (.iinc 5 1, 3) := by decide +kernel
theorem dX8_unbalanced_72 : decode cX8_unbalanced 72 = .ok (.goto (-45), 3) := by decide +kernel
theorem dX8_unbalanced_75 : decode cX8_unbalanced 75 = .ok (.iinc 4 1, 3) := by decide +kernel
theorem dX8_unbalanced_78 : decode cX8_unbalanced 78 = .ok (.goto (-63), 3) := by decide +kernel
theorem dX8_unbalanced_81 : decode cX8_unbalanced 81 = .ok (.iinc 3 1, 3) := by decide +kernel
theorem dX8_unbalanced_84 : decode cX8_unbalanced 84 = .ok (.goto (-80), 3) := by decide +kernel
theorem dX8_unbalanced_87 : decode cX8_unbalanced 87 = .ok (.iload_n 1, 1) := by decide +kernel
theorem dX8_unbalanced_88 : decode cX8_unbalanced 88 = .ok (.ifCond .eq 7, 3) := by decide +kernel
theorem dX8_unbalanced_91 : decode cX8_unbalanced 91 = .ok (.iload_n 2, 1) := by decide +kernel
theorem dX8_unbalanced_92 : decode cX8_unbalanced 92 = .ok (.goto 5, 3) := by decide +kernel
theorem dX8_unbalanced_95 : decode cX8_unbalanced 95 = .ok (.bipush (-5), 2) := by decide +kernel
theorem dX8_unbalanced_97 : decode cX8_unbalanced 97 = .ok (.ireturn, 1) := by decide +kernel
theorem dX9_append_0 : decode cX9_append 0 = .ok (.aload_n 0, 1) := by decide +kernel
theorem dX9_append_1 : decode cX9_append 1 = .ok (.getfield 9, 3) := by decide +kernel
theorem dX9_append_4 : decode cX9_append 4 = .ok (.bipush 100, 2) := by decide +kernel
theorem dX9_append_6 : decode cX9_append 6 = .ok (.if_icmp .ge 24, 3) := by decide +kernel
theorem dX9_append_9 : decode cX9_append 9 = .ok (.aload_n 0, 1) := by decide +kernel
theorem dX9_append_10 : decode cX9_append 10 = .ok (.getfield 15, 3) := by decide +kernel
theorem dX9_append_13 : decode cX9_append 13 = .ok (.aload_n 0, 1) := by decide +kernel
theorem dX9_append_14 : decode cX9_append 14 = .ok (.getfield 9, 3) := by decide +kernel
theorem dX9_append_17 : decode cX9_append 17 = .ok (.iload_n 1, 1) := by decide +kernel
theorem dX9_append_18 : decode cX9_append 18 = .ok (.i2b, 1) := by decide +kernel
theorem dX9_append_19 : decode cX9_append 19 = .ok (.bastore, 1) := by decide +kernel
theorem dX9_append_20 : decode cX9_append 20 = .ok (.aload_n 0, 1) := by decide +kernel
theorem dX9_append_21 : decode cX9_append 21 = .ok (.dup, 1) := by decide +kernel
theorem dX9_append_22 : decode cX9_append 22 = .ok (.getfield 9, 3) := by decide +kernel
theorem dX9_append_25 : decode cX9_append 25 = .ok (.iconst 1, 1) := by decide +kernel
theorem dX9_append_26 : decode cX9_append 26 = .ok (.iadd, 1) := by decide +kernel
theorem dX9_append_27 : decode cX9_append 27 = .ok (.putfield 9, 3) := by decide +kernel
theorem dX9_append_30 : decode cX9_append 30 = .ok (.return_, 1) := by decide +kernel
theorem dX9_faultPlace_0 : decode cX9_faultPlace 0 = .ok (.iconst 0, 1) := by decide +kernel
theorem dX9_faultPlace_1 : decode cX9_faultPlace 1 = .ok (.istore_n 1, 1) := by decide +kernel
theorem dX9_faultPlace_2 : decode cX9_faultPlace 2 = .ok (.iconst 0, 1) := by decide +kernel
theorem dX9_faultPlace_3 : decode cX9_faultPlace 3 = .ok (.istore_n 2, 1) := by decide +kernel
theorem dX9_faultPlace_4 : decode cX9_faultPlace 4 = .ok (.iload_n 2, 1) := by decide +kernel
theorem dX9_faultPlace_5 : decode cX9_faultPlace 5 = .ok (.bipush 100, 2) := by decide +kernel
theorem dX9_faultPlace_7 : decode cX9_faultPlace 7 = .ok (.if_icmp .gt 90, 3) := by decide +kernel
theorem dX9_faultPlace_10 : decode cX9_faultPlace 10 = .ok (.aload_n 0, 1) := by decide +kernel
theorem dX9_faultPlace_11 : decode cX9_faultPlace 11 = .ok (.iload_n 1, 1) := by decide +kernel
theorem dX9_faultPlace_12 : decode cX9_faultPlace 12 = .ok (.invokevirtual 19, 3) := by decide +kernel
theorem dX9_faultPlace_15 : decode cX9_faultPlace 15 = .ok (.istore_n 3, 1) := by decide +kernel
theorem dX9_faultPlace_16 : decode cX9_faultPlace 16 = .ok (.aload_n 0, 1) := by decide +kernel
theorem dX9_faultPlace_17 : decode cX9_faultPlace 17 = .ok (.iload_n 1, 1) := by decide +kernel
theorem dX9_faultPlace_18 : decode cX9_faultPlace 18 = .ok (.iload_n 3, 1) := by decide +kernel
theorem dX9_faultPlace_19 : decode cX9_faultPlace 19 = .ok (.invokevirtual 23, 3) := by decide +kernel
theorem dX9_faultPlace_22 : decode cX9_faultPlace 22 = .ok (.istore 4, 2) := by decide +kernel
theorem dX9_faultPlace_24 : decode cX9_faultPlace 24 = .ok (.iload 4, 2) := by decide +kernel
theorem dX9_faultPlace_26 : decode cX9_faultPlace 26 = .ok (.ifCond .ge 5, 3) := by decide +kernel
theorem dX9_faultPlace_29 : decode cX9_faultPlace 29 = .ok (.iload_n 1, 1) := by decide +kernel
theorem dX9_faultPlace_30 : decode cX9_faultPlace 30 = .ok (.ireturn, 1) := by decide +kernel
theorem dX9_faultPlace_31 : decode cX9_faultPlace 31 = .ok (.aload_n 0, 1) := by decide +kernel
theorem dX9_faultPlace_32 : decode cX9_faultPlace 32 = .ok (.iload 4, 2) := by decide +kernel
theorem dX9_faultPlace_34 : decode cX9_faultPlace 34 = .ok (.invokevirtual 27, 3) := by decide +kernel
theorem dX9_faultPlace_37 : decode cX9_faultPlace 37 = .ok (.istore 5, 2) := by decide +kernel
theorem dX9_faultPlace_39 : decode cX9_faultPlace 39 = .ok (.aload_n 0, 1) := by decide +kernel
theorem dX9_faultPlace_40 : decode cX9_faultPlace 40 = .ok (.iload_n 3, 1) := by decide +kernel
theorem dX9_faultPlace_41 : decode cX9_faultPlace 41 = .ok (.iload 5, 2) := by decide +kernel
theorem dX9_faultPlace_43 : decode cX9_faultPlace 43 = .ok (.invokevirtual 30, 3) := by decide +kernel
theorem dX9_faultPlace_46 : decode cX9_faultPlace 46 = .ok (.istore 6, 2) := by decide +kernel
theorem dX9_faultPlace_48 : decode cX9_faultPlace 48 = .ok (.iload_n 3, 1) := by decide +kernel
theorem dX9_faultPlace_49 : decode cX9_faultPlace 49 = .ok (.iload 6, 2) := by decide +kernel
theorem dX9_faultPlace_51 : decode cX9_faultPlace 51 = .ok (.iadd, 1) := by decide +kernel
theorem dX9_faultPlace_52 : decode cX9_faultPlace 52 = .ok (.istore_n 1, 1) := by decide +kernel
theorem dX9_faultPlace_53 : decode cX9_faultPlace 53 = .ok (.iload 6, 2) := by decide +kernel
theorem dX9_faultPlace_55 : decode cX9_faultPlace 55 = .ok (.iconst 2, 1) := by decide +kernel
theorem dX9_faultPlace_56 : decode cX9_faultPlace 56 = .ok (.iload 5, 2) := by decide +kernel
theorem dX9_faultPlace_58 : decode cX9_faultPlace 58 = .ok (.imul, 1) := by decide +kernel
theorem dX9_faultPlace_59 : decode cX9_faultPlace 59 = .ok (.if_icmp .ge 5, 3) := by decide +kernel
theorem dX9_faultPlace_62 : decode cX9_faultPlace 62 = .ok (.iload_n 1, 1) := by decide +kernel
theorem dX9_faultPlace_63 : decode cX9_faultPlace 63 = .ok (.ireturn, 1) := by decide +kernel
theorem dX9_faultPlace_64 : decode cX9_faultPlace 64 = .ok (.iload_n 1, 1) := by decide +kernel
theorem dX9_faultPlace_65 : decode cX9_faultPlace 65 = .ok (.aload_n 0, 1) := by decide +kernel
theorem dX9_faultPlace_66 : decode cX9_faultPlace 66 = .ok (.getfield 9, 3) := by decide +kernel
theorem dX9_faultPlace_69 : decode cX9_faultPlace 69 = .ok (.if_icmp .ne 6, 3) := by decide +kernel
theorem dX9_faultPlace_72 : decode cX9_faultPlace 72 = .ok (.bipush (-5), 2) := by decide +kernel
theorem dX9_faultPlace_74 : decode cX9_faultPlace 74 = .ok (.ireturn, 1) := by decide +kernel
theorem dX9_faultPlace_75 : decode cX9_faultPlace 75 = .ok (.aload_n 0, 1) := by decide +kernel
theorem dX9_faultPlace_76 : decode cX9_faultPlace 76 = .ok (.getfield 15, 3) := by decide +kernel
theorem dX9_faultPlace_79 : decode cX9_faultPlace 79 = .ok (.iload_n 1, 1) := by decide +kernel
theorem dX9_faultPlace_80 : decode cX9_faultPlace 80 = .ok (.baload, 1) := by decide +kernel
theorem dX9_faultPlace_81 : decode cX9_faultPlace 81 = .ok (.bipush 59, 2) := by decide +kernel
theorem dX9_faultPlace_83 : decode cX9_faultPlace 83 = .ok (.if_icmp .eq 5, 3) := by decide +kernel
theorem dX9_faultPlace_86 : decode cX9_faultPlace 86 = .ok (.iload_n 1, 1) := by decide +kernel
theorem dX9_faultPlace_87 : decode cX9_faultPlace 87 = .ok (.ireturn, 1) := by decide +kernel
theorem dX9_faultPlace_88 : decode cX9_faultPlace 88 = .ok (.iinc 1 1, 3) := by decide +kernel
theorem dX9_faultPlace_91 : decode cX9_faultPlace 91 = .ok (.iinc 2 1, 3) := by decide +kernel
theorem dX9_faultPlace_94 : decode cX9_faultPlace 94 = .ok (.goto (-90), 3) := by decide +kernel
theorem dX9_faultPlace_97 : decode cX9_faultPlace 97 = .ok (.iload_n 1, 1) := by decide +kernel
theorem dX9_faultPlace_98 : decode cX9_faultPlace 98 = .ok (.ireturn, 1) := by decide +kernel
theorem dX9_figure_0 : decode cX9_figure 0 = .ok (.iload_n 1, 1) := by decide +kernel
theorem dX9_figure_1 : decode cX9_figure 1 = .ok (.aload_n 0, 1) := by decide +kernel
theorem dX9_figure_2 : decode cX9_figure 2 = .ok (.getfield 9, 3) := by decide +kernel
theorem dX9_figure_5 : decode cX9_figure 5 = .ok (.if_icmp .ge 15, 3) := by decide +kernel
theorem dX9_figure_8 : decode cX9_figure 8 = .ok (.aload_n 0, 1) := by decide +kernel
theorem dX9_figure_9 : decode cX9_figure 9 = .ok (.getfield 15, 3) := by decide +kernel
theorem dX9_figure_12 : decode cX9_figure 12 = .ok (.iload_n 1, 1) := by decide +kernel
theorem dX9_figure_13 : decode cX9_figure 13 = .ok (.baload, 1) := by decide +kernel
theorem dX9_figure_14 : decode cX9_figure 14 = .ok (.bipush 48, 2) := by decide +kernel
theorem dX9_figure_16 : decode cX9_figure 16 = .ok (.isub, 1) := by decide +kernel
theorem dX9_figure_17 : decode cX9_figure 17 = .ok (.goto 4, 3) := by decide +kernel
theorem dX9_figure_20 : decode cX9_figure 20 = .ok (.iconst (-1), 1) := by decide +kernel
theorem dX9_figure_21 : decode cX9_figure 21 = .ok (.ireturn, 1) := by decide +kernel
theorem dX9_figuresOf_0 : decode cX9_figuresOf 0 = .ok (.iload_n 1, 1) := by decide +kernel
theorem dX9_figuresOf_1 : decode cX9_figuresOf 1 = .ok (.ifCond .ne 7, 3) := by decide +kernel
theorem dX9_figuresOf_4 : decode cX9_figuresOf 4 = .ok (.iconst 1, 1) := by decide +kernel
theorem dX9_figuresOf_5 : decode cX9_figuresOf 5 = .ok (.goto 13, 3) := by decide +kernel
theorem dX9_figuresOf_8 : decode cX9_figuresOf 8 = .ok (.iload_n 1, 1) := by decide +kernel
theorem dX9_figuresOf_9 : decode cX9_figuresOf 9 = .ok (.iconst 1, 1) := by decide +kernel
theorem dX9_figuresOf_10 : decode cX9_figuresOf 10 = .ok (.if_icmp .ne 7, 3) := by decide +kernel
theorem dX9_figuresOf_13 : decode cX9_figuresOf 13 = .ok (.iconst 2, 1) := by decide +kernel
theorem dX9_figuresOf_14 : decode cX9_figuresOf 14 = .ok (.goto 4, 3) := by decide +kernel
theorem dX9_figuresOf_17 : decode cX9_figuresOf 17 = .ok (.iconst 3, 1) := by decide +kernel
theorem dX9_figuresOf_18 : decode cX9_figuresOf 18 = .ok (.ireturn, 1) := by decide +kernel
theorem dX9_goodFigures_0 : decode cX9_goodFigures 0 = .ok (.iconst 0, 1) := by decide +kernel
theorem dX9_goodFigures_1 : decode cX9_goodFigures 1 = .ok (.istore_n 3, 1) := by decide +kernel
theorem dX9_goodFigures_2 : decode cX9_goodFigures 2 = .ok (.iload_n 3, 1) := by decide +kernel
theorem dX9_goodFigures_3 : decode cX9_goodFigures 3 = .ok (.iconst 2, 1) := by decide +kernel
theorem dX9_goodFigures_4 : decode cX9_goodFigures 4 = .ok (.iload_n 2, 1) := by decide +kernel
theorem dX9_goodFigures_5 : decode cX9_goodFigures 5 = .ok (.imul, 1) := by decide +kernel
theorem dX9_goodFigures_6 : decode cX9_goodFigures 6 = .ok (.if_icmp .ge 41, 3) := by decide +kernel
theorem dX9_goodFigures_9 : decode cX9_goodFigures 9 = .ok (.iload_n 1, 1) := by decide +kernel
theorem dX9_goodFigures_10 : decode cX9_goodFigures 10 = .ok (.iload_n 3, 1) := by decide +kernel
theorem dX9_goodFigures_11 : decode cX9_goodFigures 11 = .ok (.iadd, 1) := by decide +kernel
theorem dX9_goodFigures_12 : decode cX9_goodFigures 12 = .ok (.aload_n 0, 1) := by decide +kernel
theorem dX9_goodFigures_13 : decode cX9_goodFigures 13 = .ok (.getfield 9, 3) := by decide +kernel
theorem dX9_goodFigures_16 : decode cX9_goodFigures 16 = .ok (.if_icmp .ge 31, 3) := by decide +kernel
theorem dX9_goodFigures_19 : decode cX9_goodFigures 19 = .ok (.aload_n 0, 1) := by decide +kernel
theorem dX9_goodFigures_20 : decode cX9_goodFigures 20 = .ok (.iload_n 1, 1) := by decide +kernel
theorem dX9_goodFigures_21 : decode cX9_goodFigures 21 = .ok (.iload_n 3, 1) := by decide +kernel
theorem dX9_goodFigures_22 : decode cX9_goodFigures 22 = .ok (.iadd, 1) := by decide +kernel
theorem dX9_goodFigures_23 : decode cX9_goodFigures 23 = .ok (.iload_n 3, 1) := by decide +kernel
theorem dX9_goodFigures_24 : decode cX9_goodFigures 24 = .ok (.iconst 2, 1) := by decide +kernel
theorem dX9_goodFigures_25 : decode cX9_goodFigures 25 = .ok (.irem, 1) := by decide +kernel
theorem dX9_goodFigures_26 : decode cX9_goodFigures 26 = .ok (.iconst 1, 1) := by decide +kernel
theorem dX9_goodFigures_27 : decode cX9_goodFigures 27 = .ok (.if_icmp .ne 7, 3) := by decide +kernel
theorem dX9_goodFigures_30 : decode cX9_goodFigures 30 = .ok (.iconst 1, 1) := by decide +kernel
theorem dX9_goodFigures_31 : decode cX9_goodFigures 31 = .ok (.goto 4, 3) := by decide +kernel
theorem dX9_goodFigures_34 : decode cX9_goodFigures 34 = .ok (.iconst 0, 1) := by decide +kernel
theorem dX9_goodFigures_35 : decode cX9_goodFigures 35 = .ok (.invokevirtual 33, 3) := by decide +kernel
theorem dX9_goodFigures_38 : decode cX9_goodFigures 38 = .ok (.ifCond .eq 9, 3) := by decide +kernel
theorem dX9_goodFigures_41 : decode cX9_goodFigures 41 = .ok (.iinc 3 1, 3) := by decide +kernel
theorem dX9_goodFigures_44 : decode cX9_goodFigures 44 = .ok (.goto (-42), 3) := by decide +kernel
theorem dX9_goodFigures_47 : decode cX9_goodFigures 47 = .ok (.iload_n 3, 1) := by decide +kernel
theorem dX9_goodFigures_48 : decode cX9_goodFigures 48 = .ok (.ireturn, 1) := by decide +kernel
theorem dX9_init_0 : decode cX9_init 0 = .ok (.aload_n 0, 1) := by decide +kernel
theorem dX9_init_1 : decode cX9_init 1 = .ok (.invokespecial 3, 3) := by decide +kernel
theorem dX9_init_4 : decode cX9_init 4 = .ok (.aload_n 0, 1) := by decide +kernel
theorem dX9_init_5 : decode cX9_init 5 = .ok (.iconst 0, 1) := by decide +kernel
theorem dX9_init_6 : decode cX9_init 6 = .ok (.putfield 9, 3) := by decide +kernel
theorem dX9_init_9 : decode cX9_init 9 = .ok (.aload_n 0, 1) := by decide +kernel
theorem dX9_init_10 : decode cX9_init 10 = .ok (.bipush 100, 2) := by decide +kernel
theorem dX9_init_12 : decode cX9_init 12 = .ok (.newarray .byte, 2) := by decide +kernel
theorem dX9_init_14 : decode cX9_init 14 = .ok (.putfield 15, 3) := by decide +kernel
theorem dX9_init_17 : decode cX9_init 17 = .ok (.return_, 1) := by decide +kernel
theorem dX9_isDue_0 : decode cX9_isDue 0 = .ok (.aload_n 0, 1) := by decide +kernel
theorem dX9_isDue_1 : decode cX9_isDue 1 = .ok (.getfield 15, 3) := by decide +kernel
theorem dX9_isDue_4 : decode cX9_isDue 4 = .ok (.iload_n 1, 1) := by decide +kernel
theorem dX9_isDue_5 : decode cX9_isDue 5 = .ok (.baload, 1) := by decide +kernel
theorem dX9_isDue_6 : decode cX9_isDue 6 = .ok (.istore_n 3, 1) := by decide +kernel
theorem dX9_isDue_7 : decode cX9_isDue 7 = .ok (.iload_n 2, 1) := by decide +kernel
theorem dX9_isDue_8 : decode cX9_isDue 8 = .ok (.ifCond .eq 23, 3) := by decide +kernel
theorem dX9_isDue_11 : decode cX9_isDue 11 = .ok (.iload_n 3, 1) := by decide +kernel
theorem dX9_isDue_12 : decode cX9_isDue 12 = .ok (.bipush 48, 2) := by decide +kernel
theorem dX9_isDue_14 : decode cX9_isDue 14 = .ok (.if_icmp .lt 13, 3) := by decide +kernel
theorem dX9_isDue_17 : decode cX9_isDue 17 = .ok (.iload_n 3, 1) := by decide +kernel
theorem dX9_isDue_18 : decode cX9_isDue 18 = .ok (.bipush 57, 2) := by decide +kernel
theorem dX9_isDue_20 : decode cX9_isDue 20 = .ok (.if_icmp .gt 7, 3) := by decide +kernel
theorem dX9_isDue_23 : decode cX9_isDue 23 = .ok (.iconst 1, 1) := by decide +kernel
theorem dX9_isDue_24 : decode cX9_isDue 24 = .ok (.goto 18, 3) := by decide +kernel
theorem dX9_isDue_27 : decode cX9_isDue 27 = .ok (.iconst 0, 1) := by decide +kernel
theorem dX9_isDue_28 : decode cX9_isDue 28 = .ok (.goto 14, 3) := by decide +kernel
theorem dX9_isDue_31 : decode cX9_isDue 31 = .ok (.iload_n 3, 1) := by decide +kernel
theorem dX9_isDue_32 : decode cX9_isDue 32 = .ok (.bipush 32, 2) := by decide +kernel
theorem dX9_isDue_34 : decode cX9_isDue 34 = .ok (.if_icmp .ne 7, 3) := by decide +kernel
theorem dX9_isDue_37 : decode cX9_isDue 37 = .ok (.iconst 1, 1) := by decide +kernel
theorem dX9_isDue_38 : decode cX9_isDue 38 = .ok (.goto 4, 3) := by decide +kernel
theorem dX9_isDue_41 : decode cX9_isDue 41 = .ok (.iconst 0, 1) := by decide +kernel
theorem dX9_isDue_42 : decode cX9_isDue 42 = .ok (.ireturn, 1) := by decide +kernel
theorem dX9_isWord_0 : decode cX9_isWord 0 = .ok (.iload_n 2, 1) := by decide +kernel
theorem dX9_isWord_1 : decode cX9_isWord 1 = .ok (.iload_n 1, 1) := by decide +kernel
theorem dX9_isWord_2 : decode cX9_isWord 2 = .ok (.isub, 1) := by decide +kernel
theorem dX9_isWord_3 : decode cX9_isWord 3 = .ok (.aload_n 3, 1) := by decide +kernel
theorem dX9_isWord_4 : decode cX9_isWord 4 = .ok (.invokevirtual 49, 3) := by decide +kernel
theorem dX9_isWord_7 : decode cX9_isWord 7 = .ok (.if_icmp .eq 5, 3) := by decide +kernel
theorem dX9_isWord_10 : decode cX9_isWord 10 = .ok (.iconst 0, 1) := by decide +kernel
theorem dX9_isWord_11 : decode cX9_isWord 11 = .ok (.ireturn, 1) := by decide +kernel
theorem dX9_isWord_12 : decode cX9_isWord 12 = .ok (.iconst 0, 1) := by decide +kernel
theorem dX9_isWord_13 : decode cX9_isWord 13 = .ok (.istore 4, 2) := by decide +kernel
theorem dX9_isWord_15 : decode cX9_isWord 15 = .ok (.iload 4, 2) := by decide +kernel
theorem dX9_isWord_17 : decode cX9_isWord 17 = .ok (.aload_n 3, 1) := by decide +kernel
theorem dX9_isWord_18 : decode cX9_isWord 18 = .ok (.invokevirtual 49, 3) := by decide +kernel
theorem dX9_isWord_21 : decode cX9_isWord 21 = .ok (.if_icmp .ge 29, 3) := by decide +kernel
theorem dX9_isWord_24 : decode cX9_isWord 24 = .ok (.aload_n 0, 1) := by decide +kernel
theorem dX9_isWord_25 : decode cX9_isWord 25 = .ok (.getfield 15, 3) := by decide +kernel
theorem dX9_isWord_28 : decode cX9_isWord 28 = .ok (.iload_n 1, 1) := by decide +kernel
theorem dX9_isWord_29 : decode cX9_isWord 29 = .ok (.iload 4, 2) := by decide +kernel
theorem dX9_isWord_31 : decode cX9_isWord 31 = .ok (.iadd, 1) := by decide +kernel
theorem dX9_isWord_32 : decode cX9_isWord 32 = .ok (.baload, 1) := by decide +kernel
theorem dX9_isWord_33 : decode cX9_isWord 33 = .ok (.aload_n 3, 1) := by decide +kernel
theorem dX9_isWord_34 : decode cX9_isWord 34 = .ok (.iload 4, 2) := by decide +kernel
theorem dX9_isWord_36 : decode cX9_isWord 36 = .ok (.invokevirtual 55, 3) := by decide +kernel
theorem dX9_isWord_39 : decode cX9_isWord 39 = .ok (.if_icmp .eq 5, 3) := by decide +kernel
theorem dX9_isWord_42 : decode cX9_isWord 42 = .ok (.iconst 0, 1) := by decide +kernel
theorem dX9_isWord_43 : decode cX9_isWord 43 = .ok (.ireturn, 1) := by decide +kernel
theorem dX9_isWord_44 : decode cX9_isWord 44 = .ok (.iinc 4 1, 3) := by decide +kernel
theorem dX9_isWord_47 : decode cX9_isWord 47 = .ok (.goto (-32), 3) := by decide +kernel
theorem dX9_isWord_50 : decode cX9_isWord 50 = .ok (.iconst 1, 1) := by decide +kernel
theorem dX9_isWord_51 : decode cX9_isWord 51 = .ok (.ireturn, 1) := by decide +kernel
theorem dX9_spell_0 : decode cX9_spell 0 = .ok (.aload_n 0, 1) := by decide +kernel
theorem dX9_spell_1 : decode cX9_spell 1 = .ok (.iconst 0, 1) := by decide +kernel
theorem dX9_spell_2 : decode cX9_spell 2 = .ok (.putfield 9, 3) := by decide +kernel
theorem dX9_spell_5 : decode cX9_spell 5 = .ok (.aload_n 0, 1) := by decide +kernel
theorem dX9_spell_6 : decode cX9_spell 6 = .ok (.ldc 37, 2) := by decide +kernel
theorem dX9_spell_8 : decode cX9_spell 8 = .ok (.invokevirtual 59, 3) := by decide +kernel
theorem dX9_spell_11 : decode cX9_spell 11 = .ok (.aload_n 0, 1) := by decide +kernel
theorem dX9_spell_12 : decode cX9_spell 12 = .ok (.aload_n 1, 1) := by decide +kernel
theorem dX9_spell_13 : decode cX9_spell 13 = .ok (.getfield 63, 3) := by decide +kernel
theorem dX9_spell_16 : decode cX9_spell 16 = .ok (.invokevirtual 66, 3) := by decide +kernel
theorem dX9_spell_19 : decode cX9_spell 19 = .ok (.iconst 1, 1) := by decide +kernel
theorem dX9_spell_20 : decode cX9_spell 20 = .ok (.istore_n 2, 1) := by decide +kernel
theorem dX9_spell_21 : decode cX9_spell 21 = .ok (.iload_n 2, 1) := by decide +kernel
theorem dX9_spell_22 : decode cX9_spell 22 = .ok (.aload_n 1, 1) := by decide +kernel
theorem dX9_spell_23 : decode cX9_spell 23 = .ok (.getfield 63, 3) := by decide +kernel
theorem dX9_spell_26 : decode cX9_spell 26 = .ok (.if_icmp .ge 40, 3) := by decide +kernel
theorem dX9_spell_29 : decode cX9_spell 29 = .ok (.iload_n 2, 1) := by decide +kernel
theorem dX9_spell_30 : decode cX9_spell 30 = .ok (.aload_n 1, 1) := by decide +kernel
theorem dX9_spell_31 : decode cX9_spell 31 = .ok (.getfield 70, 3) := by decide +kernel
theorem dX9_spell_34 : decode cX9_spell 34 = .ok (.iload_n 2, 1) := by decide +kernel
theorem dX9_spell_35 : decode cX9_spell 35 = .ok (.iaload, 1) := by decide +kernel
theorem dX9_spell_36 : decode cX9_spell 36 = .ok (.if_icmp .ge 24, 3) := by decide +kernel
theorem dX9_spell_39 : decode cX9_spell 39 = .ok (.aload_n 0, 1) := by decide +kernel
theorem dX9_spell_40 : decode cX9_spell 40 = .ok (.ldc 74, 2) := by decide +kernel
theorem dX9_spell_42 : decode cX9_spell 42 = .ok (.invokevirtual 59, 3) := by decide +kernel
theorem dX9_spell_45 : decode cX9_spell 45 = .ok (.aload_n 0, 1) := by decide +kernel
theorem dX9_spell_46 : decode cX9_spell 46 = .ok (.iload_n 2, 1) := by decide +kernel
theorem dX9_spell_47 : decode cX9_spell 47 = .ok (.invokevirtual 66, 3) := by decide +kernel
theorem dX9_spell_50 : decode cX9_spell 50 = .ok (.aload_n 0, 1) := by decide +kernel
theorem dX9_spell_51 : decode cX9_spell 51 = .ok (.aload_n 1, 1) := by decide +kernel
theorem dX9_spell_52 : decode cX9_spell 52 = .ok (.getfield 70, 3) := by decide +kernel
theorem dX9_spell_55 : decode cX9_spell 55 = .ok (.iload_n 2, 1) := by decide +kernel
theorem dX9_spell_56 : decode cX9_spell 56 = .ok (.iaload, 1) := by decide +kernel
theorem dX9_spell_57 : decode cX9_spell 57 = .ok (.invokevirtual 66, 3) := by decide +kernel
theorem dX9_spell_60 : decode cX9_spell 60 = .ok (.iinc 2 1, 3) := by decide +kernel
theorem dX9_spell_63 : decode cX9_spell 63 = .ok (.goto (-42), 3) := by decide +kernel
theorem dX9_spell_66 : decode cX9_spell 66 = .ok (.iconst 1, 1) := by decide +kernel
theorem dX9_spell_67 : decode cX9_spell 67 = .ok (.istore_n 2, 1) := by decide +kernel
theorem dX9_spell_68 : decode cX9_spell 68 = .ok (.iload_n 2, 1) := by decide +kernel
theorem dX9_spell_69 : decode cX9_spell 69 = .ok (.aload_n 1, 1) := by decide +kernel
theorem dX9_spell_70 : decode cX9_spell 70 = .ok (.getfield 63, 3) := by decide +kernel
theorem dX9_spell_73 : decode cX9_spell 73 = .ok (.if_icmp .ge 73, 3) := by decide +kernel
theorem dX9_spell_76 : decode cX9_spell 76 = .ok (.iconst 1, 1) := by decide +kernel
theorem dX9_spell_77 : decode cX9_spell 77 = .ok (.istore_n 3, 1) := by decide +kernel
theorem dX9_spell_78 : decode cX9_spell 78 = .ok (.iload_n 3, 1) := by decide +kernel
theorem dX9_spell_79 : decode cX9_spell 79 = .ok (.aload_n 1, 1) := by decide +kernel
theorem dX9_spell_80 : decode cX9_spell 80 = .ok (.getfield 63, 3) := by decide +kernel
theorem dX9_spell_83 : decode cX9_spell 83 = .ok (.if_icmp .ge 57, 3) := by decide +kernel
theorem dX9_spell_86 : decode cX9_spell 86 = .ok (.iconst 1, 1) := by decide +kernel
theorem dX9_spell_87 : decode cX9_spell 87 = .ok (.istore 4, 2) := by decide +kernel
theorem dX9_spell_89 : decode cX9_spell 89 = .ok (.iload 4, 2) := by decide +kernel
theorem dX9_spell_91 : decode cX9_spell 91 = .ok (.aload_n 1, 1) := by decide +kernel
theorem dX9_spell_92 : decode cX9_spell 92 = .ok (.getfield 63, 3) := by decide +kernel
theorem dX9_spell_95 : decode cX9_spell 95 = .ok (.if_icmp .ge 39, 3) := by decide +kernel
theorem dX9_spell_98 : decode cX9_spell 98 = .ok (.aload_n 1, 1) := by decide +kernel
theorem dX9_spell_99 : decode cX9_spell 99 = .ok (.iload_n 2, 1) := by decide +kernel
theorem dX9_spell_100 : decode cX9_spell 100 = .ok (.iload_n 3, 1) := by decide +kernel
theorem dX9_spell_101 : decode cX9_spell 101 = .ok (.iload 4, 2) := by decide +kernel
theorem dX9_spell_103 : decode cX9_spell 103 = .ok (.invokevirtual 76, 3) := by decide +kernel
theorem dX9_spell_106 : decode cX9_spell 106 = .ok (.ifCond .eq 22, 3) := by decide +kernel
theorem dX9_spell_109 : decode cX9_spell 109 = .ok (.aload_n 1, 1) := by decide +kernel
theorem dX9_spell_110 : decode cX9_spell 110 = .ok (.iload_n 2, 1) := by decide +kernel
theorem dX9_spell_111 : decode cX9_spell 111 = .ok (.iload_n 3, 1) := by decide +kernel
theorem dX9_spell_112 : decode cX9_spell 112 = .ok (.iload 4, 2) := by decide +kernel
theorem dX9_spell_114 : decode cX9_spell 114 = .ok (.invokevirtual 80, 3) := by decide +kernel
theorem dX9_spell_117 : decode cX9_spell 117 = .ok (.ifCond .eq 11, 3) := by decide +kernel
theorem dX9_spell_120 : decode cX9_spell 120 = .ok (.aload_n 0, 1) := by decide +kernel
theorem dX9_spell_121 : decode cX9_spell 121 = .ok (.iload_n 2, 1) := by decide +kernel
theorem dX9_spell_122 : decode cX9_spell 122 = .ok (.iload_n 3, 1) := by decide +kernel
theorem dX9_spell_123 : decode cX9_spell 123 = .ok (.iload 4, 2) := by decide +kernel
theorem dX9_spell_125 : decode cX9_spell 125 = .ok (.invokevirtual 83, 3) := by decide +kernel
theorem dX9_spell_128 : decode cX9_spell 128 = .ok (.iinc 4 1, 3) := by decide +kernel
theorem dX9_spell_131 : decode cX9_spell 131 = .ok (.goto (-42), 3) := by decide +kernel
theorem dX9_spell_134 : decode cX9_spell 134 = .ok (.iinc 3 1, 3) := by decide +kernel
theorem dX9_spell_137 : decode cX9_spell 137 = .ok (.goto (-59), 3) := by decide +kernel
theorem dX9_spell_140 : decode cX9_spell 140 = .ok (.iinc 2 1, 3) := by decide +kernel
theorem dX9_spell_143 : decode cX9_spell 143 = .ok (.goto (-75), 3) := by decide +kernel
theorem dX9_spell_146 : decode cX9_spell 146 = .ok (.return_, 1) := by decide +kernel
theorem dX9_wordEnd_0 : decode cX9_wordEnd 0 = .ok (.iload_n 1, 1) := by decide +kernel
theorem dX9_wordEnd_1 : decode cX9_wordEnd 1 = .ok (.istore_n 2, 1) := by decide +kernel
theorem dX9_wordEnd_2 : decode cX9_wordEnd 2 = .ok (.iload_n 2, 1) := by decide +kernel
theorem dX9_wordEnd_3 : decode cX9_wordEnd 3 = .ok (.aload_n 0, 1) := by decide +kernel
theorem dX9_wordEnd_4 : decode cX9_wordEnd 4 = .ok (.getfield 9, 3) := by decide +kernel
theorem dX9_wordEnd_7 : decode cX9_wordEnd 7 = .ok (.if_icmp .ge 31, 3) := by decide +kernel
theorem dX9_wordEnd_10 : decode cX9_wordEnd 10 = .ok (.aload_n 0, 1) := by decide +kernel
theorem dX9_wordEnd_11 : decode cX9_wordEnd 11 = .ok (.getfield 15, 3) := by decide +kernel
theorem dX9_wordEnd_14 : decode cX9_wordEnd 14 = .ok (.iload_n 2, 1) := by decide +kernel
theorem dX9_wordEnd_15 : decode cX9_wordEnd 15 = .ok (.baload, 1) := by decide +kernel
theorem dX9_wordEnd_16 : decode cX9_wordEnd 16 = .ok (.bipush 97, 2) := by decide +kernel
theorem dX9_wordEnd_18 : decode cX9_wordEnd 18 = .ok (.if_icmp .lt 20, 3) := by decide +kernel
theorem dX9_wordEnd_21 : decode cX9_wordEnd 21 = .ok (.aload_n 0, 1) := by decide +kernel
theorem dX9_wordEnd_22 : decode cX9_wordEnd 22 = .ok (.getfield 15, 3) := by decide +kernel
theorem dX9_wordEnd_25 : decode cX9_wordEnd 25 = .ok (.iload_n 2, 1) := by decide +kernel
theorem dX9_wordEnd_26 : decode cX9_wordEnd 26 = .ok (.baload, 1) := by decide +kernel
theorem dX9_wordEnd_27 : decode cX9_wordEnd 27 = .ok (.bipush 122, 2) := by decide +kernel
theorem dX9_wordEnd_29 : decode cX9_wordEnd 29 = .ok (.if_icmp .gt 9, 3) := by decide +kernel
theorem dX9_wordEnd_32 : decode cX9_wordEnd 32 = .ok (.iinc 2 1, 3) := by decide +kernel
theorem dX9_wordEnd_35 : decode cX9_wordEnd 35 = .ok (.goto (-33), 3) := by decide +kernel
theorem dX9_wordEnd_38 : decode cX9_wordEnd 38 = .ok (.iload_n 2, 1) := by decide +kernel
theorem dX9_wordEnd_39 : decode cX9_wordEnd 39 = .ok (.ireturn, 1) := by decide +kernel
theorem dX9_wordKind_0 : decode cX9_wordKind 0 = .ok (.aload_n 0, 1) := by decide +kernel
theorem dX9_wordKind_1 : decode cX9_wordKind 1 = .ok (.iload_n 1, 1) := by decide +kernel
theorem dX9_wordKind_2 : decode cX9_wordKind 2 = .ok (.iload_n 2, 1) := by decide +kernel
theorem dX9_wordKind_3 : decode cX9_wordKind 3 = .ok (.ldc 37, 2) := by decide +kernel
theorem dX9_wordKind_5 : decode cX9_wordKind 5 = .ok (.invokevirtual 39, 3) := by decide +kernel
theorem dX9_wordKind_8 : decode cX9_wordKind 8 = .ok (.ifCond .eq 5, 3) := by decide +kernel
theorem dX9_wordKind_11 : decode cX9_wordKind 11 = .ok (.iconst 0, 1) := by decide +kernel
theorem dX9_wordKind_12 : decode cX9_wordKind 12 = .ok (.ireturn, 1) := by decide +kernel
theorem dX9_wordKind_13 : decode cX9_wordKind 13 = .ok (.aload_n 0, 1) := by decide +kernel
theorem dX9_wordKind_14 : decode cX9_wordKind 14 = .ok (.iload_n 1, 1) := by decide +kernel
theorem dX9_wordKind_15 : decode cX9_wordKind 15 = .ok (.iload_n 2, 1) := by decide +kernel
theorem dX9_wordKind_16 : decode cX9_wordKind 16 = .ok (.ldc 43, 2) := by decide +kernel
theorem dX9_wordKind_18 : decode cX9_wordKind 18 = .ok (.invokevirtual 39, 3) := by decide +kernel
theorem dX9_wordKind_21 : decode cX9_wordKind 21 = .ok (.ifCond .eq 5, 3) := by decide +kernel
theorem dX9_wordKind_24 : decode cX9_wordKind 24 = .ok (.iconst 1, 1) := by decide +kernel
theorem dX9_wordKind_25 : decode cX9_wordKind 25 = .ok (.ireturn, 1) := by decide +kernel
theorem dX9_wordKind_26 : decode cX9_wordKind 26 = .ok (.aload_n 0, 1) := by decide +kernel
theorem dX9_wordKind_27 : decode cX9_wordKind 27 = .ok (.iload_n 1, 1) := by decide +kernel
theorem dX9_wordKind_28 : decode cX9_wordKind 28 = .ok (.iload_n 2, 1) := by decide +kernel
theorem dX9_wordKind_29 : decode cX9_wordKind 29 = .ok (.ldc 45, 2) := by decide +kernel
theorem dX9_wordKind_31 : decode cX9_wordKind 31 = .ok (.invokevirtual 39, 3) := by decide +kernel
theorem dX9_wordKind_34 : decode cX9_wordKind 34 = .ok (.ifCond .eq 5, 3) := by decide +kernel
theorem dX9_wordKind_37 : decode cX9_wordKind 37 = .ok (.iconst 2, 1) := by decide +kernel
theorem dX9_wordKind_38 : decode cX9_wordKind 38 = .ok (.ireturn, 1) := by decide +kernel
theorem dX9_wordKind_39 : decode cX9_wordKind 39 = .ok (.aload_n 0, 1) := by decide +kernel
theorem dX9_wordKind_40 : decode cX9_wordKind 40 = .ok (.iload_n 1, 1) := by decide +kernel
theorem dX9_wordKind_41 : decode cX9_wordKind 41 = .ok (.iload_n 2, 1) := by decide +kernel
theorem dX9_wordKind_42 : decode cX9_wordKind 42 = .ok (.ldc 47, 2) := by decide +kernel
theorem dX9_wordKind_44 : decode cX9_wordKind 44 = .ok (.invokevirtual 39, 3) := by decide +kernel
theorem dX9_wordKind_47 : decode cX9_wordKind 47 = .ok (.ifCond .eq 7, 3) := by decide +kernel
theorem dX9_wordKind_50 : decode cX9_wordKind 50 = .ok (.iconst 3, 1) := by decide +kernel
theorem dX9_wordKind_51 : decode cX9_wordKind 51 = .ok (.goto 4, 3) := by decide +kernel
theorem dX9_wordKind_54 : decode cX9_wordKind 54 = .ok (.iconst (-1), 1) := by decide +kernel
theorem dX9_wordKind_55 : decode cX9_wordKind 55 = .ok (.ireturn, 1) := by decide +kernel
theorem dX9_writeFigure_0 : decode cX9_writeFigure 0 = .ok (.aload_n 0, 1) := by decide +kernel
theorem dX9_writeFigure_1 : decode cX9_writeFigure 1 = .ok (.bipush 32, 2) := by decide +kernel
theorem dX9_writeFigure_3 : decode cX9_writeFigure 3 = .ok (.invokevirtual 89, 3) := by decide +kernel
theorem dX9_writeFigure_6 : decode cX9_writeFigure 6 = .ok (.aload_n 0, 1) := by decide +kernel
theorem dX9_writeFigure_7 : decode cX9_writeFigure 7 = .ok (.bipush 48, 2) := by decide +kernel
theorem dX9_writeFigure_9 : decode cX9_writeFigure 9 = .ok (.iload_n 1, 1) := by decide +kernel
theorem dX9_writeFigure_10 : decode cX9_writeFigure 10 = .ok (.iadd, 1) := by decide +kernel
theorem dX9_writeFigure_11 : decode cX9_writeFigure 11 = .ok (.invokevirtual 89, 3) := by decide +kernel
theorem dX9_writeFigure_14 : decode cX9_writeFigure 14 = .ok (.return_, 1) := by decide +kernel
theorem dX9_writeThree_0 : decode cX9_writeThree 0 = .ok (.aload_n 0, 1) := by decide +kernel
theorem dX9_writeThree_1 : decode cX9_writeThree 1 = .ok (.ldc 87, 2) := by decide +kernel
theorem dX9_writeThree_3 : decode cX9_writeThree 3 = .ok (.invokevirtual 59, 3) := by decide +kernel
theorem dX9_writeThree_6 : decode cX9_writeThree 6 = .ok (.aload_n 0, 1) := by decide +kernel
theorem dX9_writeThree_7 : decode cX9_writeThree 7 = .ok (.iload_n 1, 1) := by decide +kernel
theorem dX9_writeThree_8 : decode cX9_writeThree 8 = .ok (.invokevirtual 66, 3) := by decide +kernel
theorem dX9_writeThree_11 : decode cX9_writeThree 11 = .ok (.aload_n 0, 1) := by decide +kernel
theorem dX9_writeThree_12 : decode cX9_writeThree 12 = .ok (.iload_n 2, 1) := by decide +kernel
theorem dX9_writeThree_13 : decode cX9_writeThree 13 = .ok (.invokevirtual 66, 3) := by decide +kernel
theorem dX9_writeThree_16 : decode cX9_writeThree 16 = .ok (.aload_n 0, 1) := by decide +kernel
theorem dX9_writeThree_17 : decode cX9_writeThree 17 = .ok (.iload_n 3, 1) := by decide +kernel
theorem dX9_writeThree_18 : decode cX9_writeThree 18 = .ok (.invokevirtual 66, 3) := by decide +kernel
theorem dX9_writeThree_21 : decode cX9_writeThree 21 = .ok (.return_, 1) := by decide +kernel
theorem dX9_writeWord_0 : decode cX9_writeWord 0 = .ok (.iconst 0, 1) := by decide +kernel
theorem dX9_writeWord_1 : decode cX9_writeWord 1 = .ok (.istore_n 2, 1) := by decide +kernel
theorem dX9_writeWord_2 : decode cX9_writeWord 2 = .ok (.iload_n 2, 1) := by decide +kernel
theorem dX9_writeWord_3 : decode cX9_writeWord 3 = .ok (.aload_n 1, 1) := by decide +kernel
theorem dX9_writeWord_4 : decode cX9_writeWord 4 = .ok (.invokevirtual 49, 3) := by decide +kernel
theorem dX9_writeWord_7 : decode cX9_writeWord 7 = .ok (.if_icmp .ge 18, 3) := by decide +kernel
theorem dX9_writeWord_10 : decode cX9_writeWord 10 = .ok (.aload_n 0, 1) := by decide +kernel
theorem dX9_writeWord_11 : decode cX9_writeWord 11 = .ok (.aload_n 1, 1) := by decide +kernel
theorem dX9_writeWord_12 : decode cX9_writeWord 12 = .ok (.iload_n 2, 1) := by decide +kernel
theorem dX9_writeWord_13 : decode cX9_writeWord 13 = .ok (.invokevirtual 55, 3) := by decide +kernel
theorem dX9_writeWord_16 : decode cX9_writeWord 16 = .ok (.invokevirtual 89, 3) := by decide +kernel
theorem dX9_writeWord_19 : decode cX9_writeWord 19 = .ok (.iinc 2 1, 3) := by decide +kernel
theorem dX9_writeWord_22 : decode cX9_writeWord 22 = .ok (.goto (-20), 3) := by decide +kernel
theorem dX9_writeWord_25 : decode cX9_writeWord 25 = .ok (.return_, 1) := by decide +kernel
