theorem dX0_isBelow_0 : decode cX0_isBelow 0 = .ok (.lload_n 0, 1) := by decide +kernel
theorem dX0_isBelow_1 : decode cX0_isBelow 1 = .ok (.ldc2_w 9, 3) := by decide +kernel
theorem dX0_isBelow_4 : decode cX0_isBelow 4 = .ok (.lxor, 1) := by decide +kernel
theorem dX0_isBelow_5 : decode cX0_isBelow 5 = .ok (.lload_n 2, 1) := by decide +kernel
theorem dX0_isBelow_6 : decode cX0_isBelow 6 = .ok (.ldc2_w 9, 3) := by decide +kernel
theorem dX0_isBelow_9 : decode cX0_isBelow 9 = .ok (.lxor, 1) := by decide +kernel
theorem dX0_isBelow_10 : decode cX0_isBelow 10 = .ok (.lcmp, 1) := by decide +kernel
theorem dX0_isBelow_11 : decode cX0_isBelow 11 = .ok (.ifCond .ge 7, 3) := by decide +kernel
theorem dX0_isBelow_14 : decode cX0_isBelow 14 = .ok (.iconst 1, 1) := by decide +kernel
theorem dX0_isBelow_15 : decode cX0_isBelow 15 = .ok (.goto 4, 3) := by decide +kernel
theorem dX0_isBelow_18 : decode cX0_isBelow 18 = .ok (.iconst 0, 1) := by decide +kernel
theorem dX0_isBelow_19 : decode cX0_isBelow 19 = .ok (.ireturn, 1) := by decide +kernel
theorem dX0_lowest_0 : decode cX0_lowest 0 = .ok (.lload_n 0, 1) := by decide +kernel
theorem dX0_lowest_1 : decode cX0_lowest 1 = .ok (.lload_n 0, 1) := by decide +kernel
theorem dX0_lowest_2 : decode cX0_lowest 2 = .ok (.lneg, 1) := by decide +kernel
theorem dX0_lowest_3 : decode cX0_lowest 3 = .ok (.land, 1) := by decide +kernel
theorem dX0_lowest_4 : decode cX0_lowest 4 = .ok (.lconst 1, 1) := by decide +kernel
theorem dX0_lowest_5 : decode cX0_lowest 5 = .ok (.lsub, 1) := by decide +kernel
theorem dX0_lowest_6 : decode cX0_lowest 6 = .ok (.invokestatic 11, 3) := by decide +kernel
theorem dX0_lowest_9 : decode cX0_lowest 9 = .ok (.ireturn, 1) := by decide +kernel
theorem dX0_least_0 : decode cX0_least 0 = .ok (.iconst 0, 1) := by decide +kernel
theorem dX0_least_1 : decode cX0_least 1 = .ok (.istore_n 3, 1) := by decide +kernel
theorem dX0_least_2 : decode cX0_least 2 = .ok (.iload_n 3, 1) := by decide +kernel
theorem dX0_least_3 : decode cX0_least 3 = .ok (.iconst 3, 1) := by decide +kernel
theorem dX0_least_4 : decode cX0_least 4 = .ok (.if_icmp .ge 29, 3) := by decide +kernel
theorem dX0_least_7 : decode cX0_least 7 = .ok (.lload_n 0, 1) := by decide +kernel
theorem dX0_least_8 : decode cX0_least 8 = .ok (.getstatic 17, 3) := by decide +kernel
theorem dX0_least_11 : decode cX0_least 11 = .ok (.iload_n 2, 1) := by decide +kernel
theorem dX0_least_12 : decode cX0_least 12 = .ok (.laload, 1) := by decide +kernel
theorem dX0_least_13 : decode cX0_least 13 = .ok (.iload_n 3, 1) := by decide +kernel
theorem dX0_least_14 : decode cX0_least 14 = .ok (.getstatic 23, 3) := by decide +kernel
theorem dX0_least_17 : decode cX0_least 17 = .ok (.iload_n 2, 1) := by decide +kernel
theorem dX0_least_18 : decode cX0_least 18 = .ok (.iaload, 1) := by decide +kernel
theorem dX0_least_19 : decode cX0_least 19 = .ok (.imul, 1) := by decide +kernel
theorem dX0_least_20 : decode cX0_least 20 = .ok (.lshl, 1) := by decide +kernel
theorem dX0_least_21 : decode cX0_least 21 = .ok (.land, 1) := by decide +kernel
theorem dX0_least_22 : decode cX0_least 22 = .ok (.lconst 0, 1) := by decide +kernel
theorem dX0_least_23 : decode cX0_least 23 = .ok (.lcmp, 1) := by decide +kernel
theorem dX0_least_24 : decode cX0_least 24 = .ok (.ifCond .ne 9, 3) := by decide +kernel
theorem dX0_least_27 : decode cX0_least 27 = .ok (.iinc 3 1, 3) := by decide +kernel
theorem dX0_least_30 : decode cX0_least 30 = .ok (.goto (-28), 3) := by decide +kernel
theorem dX0_least_33 : decode cX0_least 33 = .ok (.iload_n 3, 1) := by decide +kernel
theorem dX0_least_34 : decode cX0_least 34 = .ok (.ireturn, 1) := by decide +kernel
theorem dX0_greatest_0 : decode cX0_greatest 0 = .ok (.iconst 3, 1) := by decide +kernel
theorem dX0_greatest_1 : decode cX0_greatest 1 = .ok (.istore_n 3, 1) := by decide +kernel
theorem dX0_greatest_2 : decode cX0_greatest 2 = .ok (.iload_n 3, 1) := by decide +kernel
theorem dX0_greatest_3 : decode cX0_greatest 3 = .ok (.ifCond .le 29, 3) := by decide +kernel
theorem dX0_greatest_6 : decode cX0_greatest 6 = .ok (.lload_n 0, 1) := by decide +kernel
theorem dX0_greatest_7 : decode cX0_greatest 7 = .ok (.getstatic 17, 3) := by decide +kernel
theorem dX0_greatest_10 : decode cX0_greatest 10 = .ok (.iload_n 2, 1) := by decide +kernel
theorem dX0_greatest_11 : decode cX0_greatest 11 = .ok (.laload, 1) := by decide +kernel
theorem dX0_greatest_12 : decode cX0_greatest 12 = .ok (.iload_n 3, 1) := by decide +kernel
theorem dX0_greatest_13 : decode cX0_greatest 13 = .ok (.getstatic 23, 3) := by decide +kernel
theorem dX0_greatest_16 : decode cX0_greatest 16 = .ok (.iload_n 2, 1) := by decide +kernel
theorem dX0_greatest_17 : decode cX0_greatest 17 = .ok (.iaload, 1) := by decide +kernel
theorem dX0_greatest_18 : decode cX0_greatest 18 = .ok (.imul, 1) := by decide +kernel
theorem dX0_greatest_19 : decode cX0_greatest 19 = .ok (.lshl, 1) := by decide +kernel
theorem dX0_greatest_20 : decode cX0_greatest 20 = .ok (.land, 1) := by decide +kernel
theorem dX0_greatest_21 : decode cX0_greatest 21 = .ok (.lconst 0, 1) := by decide +kernel
theorem dX0_greatest_22 : decode cX0_greatest 22 = .ok (.lcmp, 1) := by decide +kernel
theorem dX0_greatest_23 : decode cX0_greatest 23 = .ok (.ifCond .ne 9, 3) := by decide +kernel
theorem dX0_greatest_26 : decode cX0_greatest 26 = .ok (.iinc 3 (-1), 3) := by decide +kernel
theorem dX0_greatest_29 : decode cX0_greatest 29 = .ok (.goto (-27), 3) := by decide +kernel
theorem dX0_greatest_32 : decode cX0_greatest 32 = .ok (.iload_n 3, 1) := by decide +kernel
theorem dX0_greatest_33 : decode cX0_greatest 33 = .ok (.ireturn, 1) := by decide +kernel
theorem dX0_settled_0 : decode cX0_settled 0 = .ok (.lload_n 0, 1) := by decide +kernel
theorem dX0_settled_1 : decode cX0_settled 1 = .ok (.lstore_n 2, 1) := by decide +kernel
theorem dX0_settled_2 : decode cX0_settled 2 = .ok (.iconst 0, 1) := by decide +kernel
theorem dX0_settled_3 : decode cX0_settled 3 = .ok (.istore 4, 2) := by decide +kernel
theorem dX0_settled_5 : decode cX0_settled 5 = .ok (.iload 4, 2) := by decide +kernel
theorem dX0_settled_7 : decode cX0_settled 7 = .ok (.iconst 3, 1) := by decide +kernel
theorem dX0_settled_8 : decode cX0_settled 8 = .ok (.if_icmp .ge 25, 3) := by decide +kernel
theorem dX0_settled_11 : decode cX0_settled 11 = .ok (.lload_n 2, 1) := by decide +kernel
theorem dX0_settled_12 : decode cX0_settled 12 = .ok (.lload_n 2, 1) := by decide +kernel
theorem dX0_settled_13 : decode cX0_settled 13 = .ok (.iload 4, 2) := by decide +kernel
theorem dX0_settled_15 : decode cX0_settled 15 = .ok (.invokestatic 27, 3) := by decide +kernel
theorem dX0_settled_18 : decode cX0_settled 18 = .ok (.getstatic 23, 3) := by decide +kernel
theorem dX0_settled_21 : decode cX0_settled 21 = .ok (.iload 4, 2) := by decide +kernel
theorem dX0_settled_23 : decode cX0_settled 23 = .ok (.iaload, 1) := by decide +kernel
theorem dX0_settled_24 : decode cX0_settled 24 = .ok (.imul, 1) := by decide +kernel
theorem dX0_settled_25 : decode cX0_settled 25 = .ok (.lushr, 1) := by decide +kernel
theorem dX0_settled_26 : decode cX0_settled 26 = .ok (.lstore_n 2, 1) := by decide +kernel
theorem dX0_settled_27 : decode cX0_settled 27 = .ok (.iinc 4 1, 3) := by decide +kernel
theorem dX0_settled_30 : decode cX0_settled 30 = .ok (.goto (-25), 3) := by decide +kernel
theorem dX0_settled_33 : decode cX0_settled 33 = .ok (.lload_n 2, 1) := by decide +kernel
theorem dX0_settled_34 : decode cX0_settled 34 = .ok (.lreturn, 1) := by decide +kernel
theorem dX0_shifted_0 : decode cX0_shifted 0 = .ok (.iload_n 3, 1) := by decide +kernel
theorem dX0_shifted_1 : decode cX0_shifted 1 = .ok (.bipush (-4), 2) := by decide +kernel
theorem dX0_shifted_3 : decode cX0_shifted 3 = .ok (.if_icmp .le 8, 3) := by decide +kernel
theorem dX0_shifted_6 : decode cX0_shifted 6 = .ok (.iload_n 3, 1) := by decide +kernel
theorem dX0_shifted_7 : decode cX0_shifted 7 = .ok (.iconst 4, 1) := by decide +kernel
theorem dX0_shifted_8 : decode cX0_shifted 8 = .ok (.if_icmp .lt 5, 3) := by decide +kernel
theorem dX0_shifted_11 : decode cX0_shifted 11 = .ok (.lconst 0, 1) := by decide +kernel
theorem dX0_shifted_12 : decode cX0_shifted 12 = .ok (.lreturn, 1) := by decide +kernel
theorem dX0_shifted_13 : decode cX0_shifted 13 = .ok (.iload_n 3, 1) := by decide +kernel
theorem dX0_shifted_14 : decode cX0_shifted 14 = .ok (.ifCond .lt 23, 3) := by decide +kernel
theorem dX0_shifted_17 : decode cX0_shifted 17 = .ok (.lload_n 0, 1) := by decide +kernel
theorem dX0_shifted_18 : decode cX0_shifted 18 = .ok (.getstatic 31, 3) := by decide +kernel
theorem dX0_shifted_21 : decode cX0_shifted 21 = .ok (.iload_n 2, 1) := by decide +kernel
theorem dX0_shifted_22 : decode cX0_shifted 22 = .ok (.iconst 4, 1) := by decide +kernel
theorem dX0_shifted_23 : decode cX0_shifted 23 = .ok (.imul, 1) := by decide +kernel
theorem dX0_shifted_24 : decode cX0_shifted 24 = .ok (.iload_n 3, 1) := by decide +kernel
theorem dX0_shifted_25 : decode cX0_shifted 25 = .ok (.iadd, 1) := by decide +kernel
theorem dX0_shifted_26 : decode cX0_shifted 26 = .ok (.laload, 1) := by decide +kernel
theorem dX0_shifted_27 : decode cX0_shifted 27 = .ok (.land, 1) := by decide +kernel
theorem dX0_shifted_28 : decode cX0_shifted 28 = .ok (.iload_n 3, 1) := by decide +kernel
theorem dX0_shifted_29 : decode cX0_shifted 29 = .ok (.getstatic 23, 3) := by decide +kernel
theorem dX0_shifted_32 : decode cX0_shifted 32 = .ok (.iload_n 2, 1) := by decide +kernel
theorem dX0_shifted_33 : decode cX0_shifted 33 = .ok (.iaload, 1) := by decide +kernel
theorem dX0_shifted_34 : decode cX0_shifted 34 = .ok (.imul, 1) := by decide +kernel
theorem dX0_shifted_35 : decode cX0_shifted 35 = .ok (.lshl, 1) := by decide +kernel
theorem dX0_shifted_36 : decode cX0_shifted 36 = .ok (.lreturn, 1) := by decide +kernel
theorem dX0_shifted_37 : decode cX0_shifted 37 = .ok (.lload_n 0, 1) := by decide +kernel
theorem dX0_shifted_38 : decode cX0_shifted 38 = .ok (.iload_n 3, 1) := by decide +kernel
theorem dX0_shifted_39 : decode cX0_shifted 39 = .ok (.ineg, 1) := by decide +kernel
theorem dX0_shifted_40 : decode cX0_shifted 40 = .ok (.getstatic 23, 3) := by decide +kernel
theorem dX0_shifted_43 : decode cX0_shifted 43 = .ok (.iload_n 2, 1) := by decide +kernel
theorem dX0_shifted_44 : decode cX0_shifted 44 = .ok (.iaload, 1) := by decide +kernel
theorem dX0_shifted_45 : decode cX0_shifted 45 = .ok (.imul, 1) := by decide +kernel
theorem dX0_shifted_46 : decode cX0_shifted 46 = .ok (.lushr, 1) := by decide +kernel
theorem dX0_shifted_47 : decode cX0_shifted 47 = .ok (.getstatic 31, 3) := by decide +kernel
theorem dX0_shifted_50 : decode cX0_shifted 50 = .ok (.iload_n 2, 1) := by decide +kernel
theorem dX0_shifted_51 : decode cX0_shifted 51 = .ok (.iconst 4, 1) := by decide +kernel
theorem dX0_shifted_52 : decode cX0_shifted 52 = .ok (.imul, 1) := by decide +kernel
theorem dX0_shifted_53 : decode cX0_shifted 53 = .ok (.iload_n 3, 1) := by decide +kernel
theorem dX0_shifted_54 : decode cX0_shifted 54 = .ok (.isub, 1) := by decide +kernel
theorem dX0_shifted_55 : decode cX0_shifted 55 = .ok (.laload, 1) := by decide +kernel
theorem dX0_shifted_56 : decode cX0_shifted 56 = .ok (.land, 1) := by decide +kernel
theorem dX0_shifted_57 : decode cX0_shifted 57 = .ok (.lreturn, 1) := by decide +kernel
theorem dX0_mirrors_0 : decode cX0_mirrors 0 = .ok (.iload_n 0, 1) := by decide +kernel
theorem dX0_mirrors_1 : decode cX0_mirrors 1 = .ok (.bipush 8, 2) := by decide +kernel
theorem dX0_mirrors_3 : decode cX0_mirrors 3 = .ok (.idiv, 1) := by decide +kernel
theorem dX0_mirrors_4 : decode cX0_mirrors 4 = .ok (.iconst 3, 1) := by decide +kernel
theorem dX0_mirrors_5 : decode cX0_mirrors 5 = .ok (.if_icmp .lt 7, 3) := by decide +kernel
theorem dX0_mirrors_8 : decode cX0_mirrors 8 = .ok (.iconst 1, 1) := by decide +kernel
theorem dX0_mirrors_9 : decode cX0_mirrors 9 = .ok (.goto 4, 3) := by decide +kernel
theorem dX0_mirrors_12 : decode cX0_mirrors 12 = .ok (.iconst 0, 1) := by decide +kernel
theorem dX0_mirrors_13 : decode cX0_mirrors 13 = .ok (.istore_n 1, 1) := by decide +kernel
theorem dX0_mirrors_14 : decode cX0_mirrors 14 = .ok (.iload_n 0, 1) := by decide +kernel
theorem dX0_mirrors_15 : decode cX0_mirrors 15 = .ok (.bipush 8, 2) := by decide +kernel
theorem dX0_mirrors_17 : decode cX0_mirrors 17 = .ok (.irem, 1) := by decide +kernel
theorem dX0_mirrors_18 : decode cX0_mirrors 18 = .ok (.invokestatic 34, 3) := by decide +kernel
theorem dX0_mirrors_21 : decode cX0_mirrors 21 = .ok (.iconst 1, 1) := by decide +kernel
theorem dX0_mirrors_22 : decode cX0_mirrors 22 = .ok (.iand, 1) := by decide +kernel
theorem dX0_mirrors_23 : decode cX0_mirrors 23 = .ok (.ifCond .eq 7, 3) := by decide +kernel
theorem dX0_mirrors_26 : decode cX0_mirrors 26 = .ok (.iconst 1, 1) := by decide +kernel
theorem dX0_mirrors_27 : decode cX0_mirrors 27 = .ok (.goto 4, 3) := by decide +kernel
theorem dX0_mirrors_30 : decode cX0_mirrors 30 = .ok (.iconst 0, 1) := by decide +kernel
theorem dX0_mirrors_31 : decode cX0_mirrors 31 = .ok (.istore_n 2, 1) := by decide +kernel
theorem dX0_mirrors_32 : decode cX0_mirrors 32 = .ok (.iload_n 1, 1) := by decide +kernel
theorem dX0_mirrors_33 : decode cX0_mirrors 33 = .ok (.iload_n 2, 1) := by decide +kernel
theorem dX0_mirrors_34 : decode cX0_mirrors 34 = .ok (.if_icmp .eq 7, 3) := by decide +kernel
theorem dX0_mirrors_37 : decode cX0_mirrors 37 = .ok (.iconst 1, 1) := by decide +kernel
theorem dX0_mirrors_38 : decode cX0_mirrors 38 = .ok (.goto 4, 3) := by decide +kernel
theorem dX0_mirrors_41 : decode cX0_mirrors 41 = .ok (.iconst 0, 1) := by decide +kernel
theorem dX0_mirrors_42 : decode cX0_mirrors 42 = .ok (.ireturn, 1) := by decide +kernel
theorem dX0_turned_0 : decode cX0_turned 0 = .ok (.iload_n 2, 1) := by decide +kernel
theorem dX0_turned_1 : decode cX0_turned 1 = .ok (.bipush 8, 2) := by decide +kernel
theorem dX0_turned_3 : decode cX0_turned 3 = .ok (.idiv, 1) := by decide +kernel
theorem dX0_turned_4 : decode cX0_turned 4 = .ok (.iconst 3, 1) := by decide +kernel
theorem dX0_turned_5 : decode cX0_turned 5 = .ok (.imul, 1) := by decide +kernel
theorem dX0_turned_6 : decode cX0_turned 6 = .ok (.istore_n 3, 1) := by decide +kernel
theorem dX0_turned_7 : decode cX0_turned 7 = .ok (.iload_n 2, 1) := by decide +kernel
theorem dX0_turned_8 : decode cX0_turned 8 = .ok (.bipush 8, 2) := by decide +kernel
theorem dX0_turned_10 : decode cX0_turned 10 = .ok (.irem, 1) := by decide +kernel
theorem dX0_turned_11 : decode cX0_turned 11 = .ok (.istore 4, 2) := by decide +kernel
theorem dX0_turned_13 : decode cX0_turned 13 = .ok (.lconst 0, 1) := by decide +kernel
theorem dX0_turned_14 : decode cX0_turned 14 = .ok (.lstore 5, 2) := by decide +kernel
theorem dX0_turned_16 : decode cX0_turned 16 = .ok (.lload_n 0, 1) := by decide +kernel
theorem dX0_turned_17 : decode cX0_turned 17 = .ok (.lstore 7, 2) := by decide +kernel
theorem dX0_turned_19 : decode cX0_turned 19 = .ok (.lload 7, 2) := by decide +kernel
theorem dX0_turned_21 : decode cX0_turned 21 = .ok (.lconst 0, 1) := by decide +kernel
theorem dX0_turned_22 : decode cX0_turned 22 = .ok (.lcmp, 1) := by decide +kernel
theorem dX0_turned_23 : decode cX0_turned 23 = .ok (.ifCond .eq 111, 3) := by decide +kernel
theorem dX0_turned_26 : decode cX0_turned 26 = .ok (.lload 7, 2) := by decide +kernel
theorem dX0_turned_28 : decode cX0_turned 28 = .ok (.invokestatic 39, 3) := by decide +kernel
theorem dX0_turned_31 : decode cX0_turned 31 = .ok (.istore 9, 2) := by decide +kernel
theorem dX0_turned_33 : decode cX0_turned 33 = .ok (.iconst 0, 1) := by decide +kernel
theorem dX0_turned_34 : decode cX0_turned 34 = .ok (.istore 10, 2) := by decide +kernel
theorem dX0_turned_36 : decode cX0_turned 36 = .ok (.iconst 0, 1) := by decide +kernel
theorem dX0_turned_37 : decode cX0_turned 37 = .ok (.istore 11, 2) := by decide +kernel
theorem dX0_turned_39 : decode cX0_turned 39 = .ok (.iload 11, 2) := by decide +kernel
theorem dX0_turned_41 : decode cX0_turned 41 = .ok (.iconst 3, 1) := by decide +kernel
theorem dX0_turned_42 : decode cX0_turned 42 = .ok (.if_icmp .ge 71, 3) := by decide +kernel
theorem dX0_turned_45 : decode cX0_turned 45 = .ok (.iload 9, 2) := by decide +kernel
theorem dX0_turned_47 : decode cX0_turned 47 = .ok (.getstatic 23, 3) := by decide +kernel
theorem dX0_turned_50 : decode cX0_turned 50 = .ok (.getstatic 42, 3) := by decide +kernel
theorem dX0_turned_53 : decode cX0_turned 53 = .ok (.iload_n 3, 1) := by decide +kernel
theorem dX0_turned_54 : decode cX0_turned 54 = .ok (.iload 11, 2) := by decide +kernel
theorem dX0_turned_56 : decode cX0_turned 56 = .ok (.iadd, 1) := by decide +kernel
theorem dX0_turned_57 : decode cX0_turned 57 = .ok (.iaload, 1) := by decide +kernel
theorem dX0_turned_58 : decode cX0_turned 58 = .ok (.iaload, 1) := by decide +kernel
theorem dX0_turned_59 : decode cX0_turned 59 = .ok (.idiv, 1) := by decide +kernel
theorem dX0_turned_60 : decode cX0_turned 60 = .ok (.iconst 4, 1) := by decide +kernel
theorem dX0_turned_61 : decode cX0_turned 61 = .ok (.irem, 1) := by decide +kernel
theorem dX0_turned_62 : decode cX0_turned 62 = .ok (.istore 12, 2) := by decide +kernel
theorem dX0_turned_64 : decode cX0_turned 64 = .ok (.iload 4, 2) := by decide +kernel
theorem dX0_turned_66 : decode cX0_turned 66 = .ok (.iload 11, 2) := by decide +kernel
theorem dX0_turned_68 : decode cX0_turned 68 = .ok (.ishr, 1) := by decide +kernel
theorem dX0_turned_69 : decode cX0_turned 69 = .ok (.iconst 1, 1) := by decide +kernel
theorem dX0_turned_70 : decode cX0_turned 70 = .ok (.iand, 1) := by decide +kernel
theorem dX0_turned_71 : decode cX0_turned 71 = .ok (.ifCond .eq 7, 3) := by decide +kernel
theorem dX0_turned_74 : decode cX0_turned 74 = .ok (.iconst 1, 1) := by decide +kernel
theorem dX0_turned_75 : decode cX0_turned 75 = .ok (.goto 4, 3) := by decide +kernel
theorem dX0_turned_78 : decode cX0_turned 78 = .ok (.iconst 0, 1) := by decide +kernel
theorem dX0_turned_79 : decode cX0_turned 79 = .ok (.istore 13, 2) := by decide +kernel
theorem dX0_turned_81 : decode cX0_turned 81 = .ok (.iload 10, 2) := by decide +kernel
theorem dX0_turned_83 : decode cX0_turned 83 = .ok (.iload 13, 2) := by decide +kernel
theorem dX0_turned_85 : decode cX0_turned 85 = .ok (.ifCond .eq 10, 3) := by decide +kernel
theorem dX0_turned_88 : decode cX0_turned 88 = .ok (.iconst 3, 1) := by decide +kernel
theorem dX0_turned_89 : decode cX0_turned 89 = .ok (.iload 12, 2) := by decide +kernel
theorem dX0_turned_91 : decode cX0_turned 91 = .ok (.isub, 1) := by decide +kernel
theorem dX0_turned_92 : decode cX0_turned 92 = .ok (.goto 5, 3) := by decide +kernel
theorem dX0_turned_95 : decode cX0_turned 95 = .ok (.iload 12, 2) := by decide +kernel
theorem dX0_turned_97 : decode cX0_turned 97 = .ok (.getstatic 23, 3) := by decide +kernel
theorem dX0_turned_100 : decode cX0_turned 100 = .ok (.iload 11, 2) := by decide +kernel
theorem dX0_turned_102 : decode cX0_turned 102 = .ok (.iaload, 1) := by decide +kernel
theorem dX0_turned_103 : decode cX0_turned 103 = .ok (.imul, 1) := by decide +kernel
theorem dX0_turned_104 : decode cX0_turned 104 = .ok (.iadd, 1) := by decide +kernel
theorem dX0_turned_105 : decode cX0_turned 105 = .ok (.istore 10, 2) := by decide +kernel
theorem dX0_turned_107 : decode cX0_turned 107 = .ok (.iinc 11 1, 3) := by decide +kernel
theorem dX0_turned_110 : decode cX0_turned 110 = .ok (.goto (-71), 3) := by decide +kernel
theorem dX0_turned_113 : decode cX0_turned 113 = .ok (.lload 5, 2) := by decide +kernel
theorem dX0_turned_115 : decode cX0_turned 115 = .ok (.lconst 1, 1) := by decide +kernel
theorem dX0_turned_116 : decode cX0_turned 116 = .ok (.iload 10, 2) := by decide +kernel
theorem dX0_turned_118 : decode cX0_turned 118 = .ok (.lshl, 1) := by decide +kernel
theorem dX0_turned_119 : decode cX0_turned 119 = .ok (.lor, 1) := by decide +kernel
theorem dX0_turned_120 : decode cX0_turned 120 = .ok (.lstore 5, 2) := by decide +kernel
theorem dX0_turned_122 : decode cX0_turned 122 = .ok (.lload 7, 2) := by decide +kernel
theorem dX0_turned_124 : decode cX0_turned 124 = .ok (.lload 7, 2) := by decide +kernel
theorem dX0_turned_126 : decode cX0_turned 126 = .ok (.lconst 1, 1) := by decide +kernel
theorem dX0_turned_127 : decode cX0_turned 127 = .ok (.lsub, 1) := by decide +kernel
theorem dX0_turned_128 : decode cX0_turned 128 = .ok (.land, 1) := by decide +kernel
theorem dX0_turned_129 : decode cX0_turned 129 = .ok (.lstore 7, 2) := by decide +kernel
theorem dX0_turned_131 : decode cX0_turned 131 = .ok (.goto (-112), 3) := by decide +kernel
theorem dX0_turned_134 : decode cX0_turned 134 = .ok (.lload 5, 2) := by decide +kernel
theorem dX0_turned_136 : decode cX0_turned 136 = .ok (.lreturn, 1) := by decide +kernel
theorem dX0_hangsTogether_0 : decode cX0_hangsTogether 0 = .ok (.lload_n 0, 1) := by decide +kernel
theorem dX0_hangsTogether_1 : decode cX0_hangsTogether 1 = .ok (.lload_n 0, 1) := by decide +kernel
theorem dX0_hangsTogether_2 : decode cX0_hangsTogether 2 = .ok (.lneg, 1) := by decide +kernel
theorem dX0_hangsTogether_3 : decode cX0_hangsTogether 3 = .ok (.land, 1) := by decide +kernel
theorem dX0_hangsTogether_4 : decode cX0_hangsTogether 4 = .ok (.lstore_n 2, 1) := by decide +kernel
theorem dX0_hangsTogether_5 : decode cX0_hangsTogether 5 = .ok (.iconst 0, 1) := by decide +kernel
theorem dX0_hangsTogether_6 : decode cX0_hangsTogether 6 = .ok (.istore 4, 2) := by decide +kernel
theorem dX0_hangsTogether_8 : decode cX0_hangsTogether 8 = .ok (.iload 4, 2) := by decide +kernel
theorem dX0_hangsTogether_10 : decode cX0_hangsTogether 10 = .ok (.bipush 10, 2) := by decide +kernel
theorem dX0_hangsTogether_12 : decode cX0_hangsTogether 12 = .ok (.if_icmp .ge 18, 3) := by decide +kernel
theorem dX0_hangsTogether_15 : decode cX0_hangsTogether 15 = .ok (.lload_n 2, 1) := by decide +kernel
theorem dX0_hangsTogether_16 : decode cX0_hangsTogether 16 = .ok (.lload_n 2, 1) := by decide +kernel
theorem dX0_hangsTogether_17 : decode cX0_hangsTogether 17 = .ok (.invokestatic 45, 3) := by decide +kernel
theorem dX0_hangsTogether_20 : decode cX0_hangsTogether 20 = .ok (.lload_n 0, 1) := by decide +kernel
theorem dX0_hangsTogether_21 : decode cX0_hangsTogether 21 = .ok (.land, 1) := by decide +kernel
theorem dX0_hangsTogether_22 : decode cX0_hangsTogether 22 = .ok (.lor, 1) := by decide +kernel
theorem dX0_hangsTogether_23 : decode cX0_hangsTogether 23 = .ok (.lstore_n 2, 1) := by decide +kernel
theorem dX0_hangsTogether_24 : decode cX0_hangsTogether 24 = .ok (.iinc 4 1, 3) := by decide +kernel
theorem dX0_hangsTogether_27 : decode cX0_hangsTogether 27 = .ok (.goto (-19), 3) := by decide +kernel
theorem dX0_hangsTogether_30 : decode cX0_hangsTogether 30 = .ok (.lload_n 0, 1) := by decide +kernel
theorem dX0_hangsTogether_31 : decode cX0_hangsTogether 31 = .ok (.lconst 0, 1) := by decide +kernel
theorem dX0_hangsTogether_32 : decode cX0_hangsTogether 32 = .ok (.lcmp, 1) := by decide +kernel
theorem dX0_hangsTogether_33 : decode cX0_hangsTogether 33 = .ok (.ifCond .eq 13, 3) := by decide +kernel
theorem dX0_hangsTogether_36 : decode cX0_hangsTogether 36 = .ok (.lload_n 2, 1) := by decide +kernel
theorem dX0_hangsTogether_37 : decode cX0_hangsTogether 37 = .ok (.lload_n 0, 1) := by decide +kernel
theorem dX0_hangsTogether_38 : decode cX0_hangsTogether 38 = .ok (.lcmp, 1) := by decide +kernel
theorem dX0_hangsTogether_39 : decode cX0_hangsTogether 39 = .ok (.ifCond .ne 7, 3) := by decide +kernel
theorem dX0_hangsTogether_42 : decode cX0_hangsTogether 42 = .ok (.iconst 1, 1) := by decide +kernel
theorem dX0_hangsTogether_43 : decode cX0_hangsTogether 43 = .ok (.goto 4, 3) := by decide +kernel
theorem dX0_hangsTogether_46 : decode cX0_hangsTogether 46 = .ok (.iconst 0, 1) := by decide +kernel
theorem dX0_hangsTogether_47 : decode cX0_hangsTogether 47 = .ok (.ireturn, 1) := by decide +kernel
theorem dX0_neighbours_0 : decode cX0_neighbours 0 = .ok (.lconst 0, 1) := by decide +kernel
theorem dX0_neighbours_1 : decode cX0_neighbours 1 = .ok (.lstore_n 2, 1) := by decide +kernel
theorem dX0_neighbours_2 : decode cX0_neighbours 2 = .ok (.iconst 0, 1) := by decide +kernel
theorem dX0_neighbours_3 : decode cX0_neighbours 3 = .ok (.istore 4, 2) := by decide +kernel
theorem dX0_neighbours_5 : decode cX0_neighbours 5 = .ok (.iload 4, 2) := by decide +kernel
theorem dX0_neighbours_7 : decode cX0_neighbours 7 = .ok (.iconst 3, 1) := by decide +kernel
theorem dX0_neighbours_8 : decode cX0_neighbours 8 = .ok (.if_icmp .ge 27, 3) := by decide +kernel
theorem dX0_neighbours_11 : decode cX0_neighbours 11 = .ok (.lload_n 2, 1) := by decide +kernel
theorem dX0_neighbours_12 : decode cX0_neighbours 12 = .ok (.lload_n 0, 1) := by decide +kernel
theorem dX0_neighbours_13 : decode cX0_neighbours 13 = .ok (.iload 4, 2) := by decide +kernel
theorem dX0_neighbours_15 : decode cX0_neighbours 15 = .ok (.iconst 1, 1) := by decide +kernel
theorem dX0_neighbours_16 : decode cX0_neighbours 16 = .ok (.invokestatic 49, 3) := by decide +kernel
theorem dX0_neighbours_19 : decode cX0_neighbours 19 = .ok (.lload_n 0, 1) := by decide +kernel
theorem dX0_neighbours_20 : decode cX0_neighbours 20 = .ok (.iload 4, 2) := by decide +kernel
theorem dX0_neighbours_22 : decode cX0_neighbours 22 = .ok (.iconst (-1), 1) := by decide +kernel
theorem dX0_neighbours_23 : decode cX0_neighbours 23 = .ok (.invokestatic 49, 3) := by decide +kernel
theorem dX0_neighbours_26 : decode cX0_neighbours 26 = .ok (.lor, 1) := by decide +kernel
theorem dX0_neighbours_27 : decode cX0_neighbours 27 = .ok (.lor, 1) := by decide +kernel
theorem dX0_neighbours_28 : decode cX0_neighbours 28 = .ok (.lstore_n 2, 1) := by decide +kernel
theorem dX0_neighbours_29 : decode cX0_neighbours 29 = .ok (.iinc 4 1, 3) := by decide +kernel
theorem dX0_neighbours_32 : decode cX0_neighbours 32 = .ok (.goto (-27), 3) := by decide +kernel
theorem dX0_neighbours_35 : decode cX0_neighbours 35 = .ok (.lload_n 2, 1) := by decide +kernel
theorem dX0_neighbours_36 : decode cX0_neighbours 36 = .ok (.lreturn, 1) := by decide +kernel
theorem dX1_init_0 : decode cX1_init 0 = .ok (.aload_n 0, 1) := by decide +kernel
theorem dX1_init_1 : decode cX1_init 1 = .ok (.invokespecial 5, 3) := by decide +kernel
theorem dX1_init_4 : decode cX1_init 4 = .ok (.aload_n 0, 1) := by decide +kernel
theorem dX1_init_5 : decode cX1_init 5 = .ok (.bipush 48, 2) := by decide +kernel
theorem dX1_init_7 : decode cX1_init 7 = .ok (.newarray .long, 2) := by decide +kernel
theorem dX1_init_9 : decode cX1_init 9 = .ok (.putfield 11, 3) := by decide +kernel
theorem dX1_init_12 : decode cX1_init 12 = .ok (.aload_n 0, 1) := by decide +kernel
theorem dX1_init_13 : decode cX1_init 13 = .ok (.sipush 896, 3) := by decide +kernel
theorem dX1_init_16 : decode cX1_init 16 = .ok (.newarray .long, 2) := by decide +kernel
theorem dX1_init_18 : decode cX1_init 18 = .ok (.putfield 15, 3) := by decide +kernel
theorem dX1_init_21 : decode cX1_init 21 = .ok (.aload_n 0, 1) := by decide +kernel
theorem dX1_init_22 : decode cX1_init 22 = .ok (.sipush 910, 3) := by decide +kernel
theorem dX1_init_25 : decode cX1_init 25 = .ok (.newarray .long, 2) := by decide +kernel
theorem dX1_init_27 : decode cX1_init 27 = .ok (.putfield 18, 3) := by decide +kernel
theorem dX1_init_30 : decode cX1_init 30 = .ok (.aload_n 0, 1) := by decide +kernel
theorem dX1_init_31 : decode cX1_init 31 = .ok (.bipush 64, 2) := by decide +kernel
theorem dX1_init_33 : decode cX1_init 33 = .ok (.newarray .long, 2) := by decide +kernel
theorem dX1_init_35 : decode cX1_init 35 = .ok (.putfield 21, 3) := by decide +kernel
theorem dX1_init_38 : decode cX1_init 38 = .ok (.return_, 1) := by decide +kernel
theorem dX1_hasCube_0 : decode cX1_hasCube 0 = .ok (.aload_n 0, 1) := by decide +kernel
theorem dX1_hasCube_1 : decode cX1_hasCube 1 = .ok (.getfield 24, 3) := by decide +kernel
theorem dX1_hasCube_4 : decode cX1_hasCube 4 = .ok (.iload_n 1, 1) := by decide +kernel
theorem dX1_hasCube_5 : decode cX1_hasCube 5 = .ok (.lushr, 1) := by decide +kernel
theorem dX1_hasCube_6 : decode cX1_hasCube 6 = .ok (.lconst 1, 1) := by decide +kernel
theorem dX1_hasCube_7 : decode cX1_hasCube 7 = .ok (.land, 1) := by decide +kernel
theorem dX1_hasCube_8 : decode cX1_hasCube 8 = .ok (.lconst 0, 1) := by decide +kernel
theorem dX1_hasCube_9 : decode cX1_hasCube 9 = .ok (.lcmp, 1) := by decide +kernel
theorem dX1_hasCube_10 : decode cX1_hasCube 10 = .ok (.ifCond .eq 7, 3) := by decide +kernel
theorem dX1_hasCube_13 : decode cX1_hasCube 13 = .ok (.iconst 1, 1) := by decide +kernel
theorem dX1_hasCube_14 : decode cX1_hasCube 14 = .ok (.goto 4, 3) := by decide +kernel
theorem dX1_hasCube_17 : decode cX1_hasCube 17 = .ok (.iconst 0, 1) := by decide +kernel
theorem dX1_hasCube_18 : decode cX1_hasCube 18 = .ok (.ireturn, 1) := by decide +kernel
theorem dX1_cubeCount_0 : decode cX1_cubeCount 0 = .ok (.aload_n 0, 1) := by decide +kernel
theorem dX1_cubeCount_1 : decode cX1_cubeCount 1 = .ok (.getfield 24, 3) := by decide +kernel
theorem dX1_cubeCount_4 : decode cX1_cubeCount 4 = .ok (.invokestatic 28, 3) := by decide +kernel
theorem dX1_cubeCount_7 : decode cX1_cubeCount 7 = .ok (.ireturn, 1) := by decide +kernel
theorem dX1_flipCube_0 : decode cX1_flipCube 0 = .ok (.aload_n 0, 1) := by decide +kernel
theorem dX1_flipCube_1 : decode cX1_flipCube 1 = .ok (.dup, 1) := by decide +kernel
theorem dX1_flipCube_2 : decode cX1_flipCube 2 = .ok (.getfield 24, 3) := by decide +kernel
theorem dX1_flipCube_5 : decode cX1_flipCube 5 = .ok (.lconst 1, 1) := by decide +kernel
theorem dX1_flipCube_6 : decode cX1_flipCube 6 = .ok (.iload_n 1, 1) := by decide +kernel
theorem dX1_flipCube_7 : decode cX1_flipCube 7 = .ok (.lshl, 1) := by decide +kernel
theorem dX1_flipCube_8 : decode cX1_flipCube 8 = .ok (.lxor, 1) := by decide +kernel
theorem dX1_flipCube_9 : decode cX1_flipCube 9 = .ok (.putfield 24, 3) := by decide +kernel
theorem dX1_flipCube_12 : decode cX1_flipCube 12 = .ok (.aload_n 0, 1) := by decide +kernel
theorem dX1_flipCube_13 : decode cX1_flipCube 13 = .ok (.invokevirtual 34, 3) := by decide +kernel
theorem dX1_flipCube_16 : decode cX1_flipCube 16 = .ok (.return_, 1) := by decide +kernel
theorem dX1_allowMirror_0 : decode cX1_allowMirror 0 = .ok (.aload_n 0, 1) := by decide +kernel
theorem dX1_allowMirror_1 : decode cX1_allowMirror 1 = .ok (.iload_n 1, 1) := by decide +kernel
theorem dX1_allowMirror_2 : decode cX1_allowMirror 2 = .ok (.putfield 37, 3) := by decide +kernel
theorem dX1_allowMirror_5 : decode cX1_allowMirror 5 = .ok (.aload_n 0, 1) := by decide +kernel
theorem dX1_allowMirror_6 : decode cX1_allowMirror 6 = .ok (.invokevirtual 34, 3) := by decide +kernel
theorem dX1_allowMirror_9 : decode cX1_allowMirror 9 = .ok (.return_, 1) := by decide +kernel
theorem dX1_countShapes_0 : decode cX1_countShapes 0 = .ok (.aload_n 0, 1) := by decide +kernel
theorem dX1_countShapes_1 : decode cX1_countShapes 1 = .ok (.invokevirtual 41, 3) := by decide +kernel
theorem dX1_countShapes_4 : decode cX1_countShapes 4 = .ok (.aload_n 0, 1) := by decide +kernel
theorem dX1_countShapes_5 : decode cX1_countShapes 5 = .ok (.getfield 44, 3) := by decide +kernel
theorem dX1_countShapes_8 : decode cX1_countShapes 8 = .ok (.ireturn, 1) := by decide +kernel
theorem dX1_shapeAt_0 : decode cX1_shapeAt 0 = .ok (.aload_n 0, 1) := by decide +kernel
theorem dX1_shapeAt_1 : decode cX1_shapeAt 1 = .ok (.getfield 11, 3) := by decide +kernel
theorem dX1_shapeAt_4 : decode cX1_shapeAt 4 = .ok (.iload_n 1, 1) := by decide +kernel
theorem dX1_shapeAt_5 : decode cX1_shapeAt 5 = .ok (.laload, 1) := by decide +kernel
theorem dX1_shapeAt_6 : decode cX1_shapeAt 6 = .ok (.lreturn, 1) := by decide +kernel
theorem dX1_hasShape_0 : decode cX1_hasShape 0 = .ok (.aload_n 0, 1) := by decide +kernel
theorem dX1_hasShape_1 : decode cX1_hasShape 1 = .ok (.invokevirtual 48, 3) := by decide +kernel
theorem dX1_hasShape_4 : decode cX1_hasShape 4 = .ok (.istore_n 3, 1) := by decide +kernel
theorem dX1_hasShape_5 : decode cX1_hasShape 5 = .ok (.iconst 0, 1) := by decide +kernel
theorem dX1_hasShape_6 : decode cX1_hasShape 6 = .ok (.istore 4, 2) := by decide +kernel
theorem dX1_hasShape_8 : decode cX1_hasShape 8 = .ok (.iload 4, 2) := by decide +kernel
theorem dX1_hasShape_10 : decode cX1_hasShape 10 = .ok (.iload_n 3, 1) := by decide +kernel
theorem dX1_hasShape_11 : decode cX1_hasShape 11 = .ok (.if_icmp .ge 23, 3) := by decide +kernel
theorem dX1_hasShape_14 : decode cX1_hasShape 14 = .ok (.aload_n 0, 1) := by decide +kernel
theorem dX1_hasShape_15 : decode cX1_hasShape 15 = .ok (.getfield 11, 3) := by decide +kernel
theorem dX1_hasShape_18 : decode cX1_hasShape 18 = .ok (.iload 4, 2) := by decide +kernel
theorem dX1_hasShape_20 : decode cX1_hasShape 20 = .ok (.laload, 1) := by decide +kernel
theorem dX1_hasShape_21 : decode cX1_hasShape 21 = .ok (.lload_n 1, 1) := by decide +kernel
theorem dX1_hasShape_22 : decode cX1_hasShape 22 = .ok (.lcmp, 1) := by decide +kernel
theorem dX1_hasShape_23 : decode cX1_hasShape 23 = .ok (.ifCond .ne 5, 3) := by decide +kernel
theorem dX1_hasShape_26 : decode cX1_hasShape 26 = .ok (.iconst 1, 1) := by decide +kernel
theorem dX1_hasShape_27 : decode cX1_hasShape 27 = .ok (.ireturn, 1) := by decide +kernel
theorem dX1_hasShape_28 : decode cX1_hasShape 28 = .ok (.iinc 4 1, 3) := by decide +kernel
theorem dX1_hasShape_31 : decode cX1_hasShape 31 = .ok (.goto (-23), 3) := by decide +kernel
theorem dX1_hasShape_34 : decode cX1_hasShape 34 = .ok (.iconst 0, 1) := by decide +kernel
theorem dX1_hasShape_35 : decode cX1_hasShape 35 = .ok (.ireturn, 1) := by decide +kernel
theorem dX1_countPlaces_0 : decode cX1_countPlaces 0 = .ok (.aload_n 0, 1) := by decide +kernel
theorem dX1_countPlaces_1 : decode cX1_countPlaces 1 = .ok (.getfield 52, 3) := by decide +kernel
theorem dX1_countPlaces_4 : decode cX1_countPlaces 4 = .ok (.ireturn, 1) := by decide +kernel
theorem dX1_placeAt_0 : decode cX1_placeAt 0 = .ok (.aload_n 0, 1) := by decide +kernel
theorem dX1_placeAt_1 : decode cX1_placeAt 1 = .ok (.getfield 15, 3) := by decide +kernel
theorem dX1_placeAt_4 : decode cX1_placeAt 4 = .ok (.iload_n 1, 1) := by decide +kernel
theorem dX1_placeAt_5 : decode cX1_placeAt 5 = .ok (.laload, 1) := by decide +kernel
theorem dX1_placeAt_6 : decode cX1_placeAt 6 = .ok (.lreturn, 1) := by decide +kernel
theorem dX1_countWords_0 : decode cX1_countWords 0 = .ok (.aload_n 0, 1) := by decide +kernel
theorem dX1_countWords_1 : decode cX1_countWords 1 = .ok (.getfield 52, 3) := by decide +kernel
theorem dX1_countWords_4 : decode cX1_countWords 4 = .ok (.bipush 63, 2) := by decide +kernel
theorem dX1_countWords_6 : decode cX1_countWords 6 = .ok (.iadd, 1) := by decide +kernel
theorem dX1_countWords_7 : decode cX1_countWords 7 = .ok (.bipush 64, 2) := by decide +kernel
theorem dX1_countWords_9 : decode cX1_countWords 9 = .ok (.idiv, 1) := by decide +kernel
theorem dX1_countWords_10 : decode cX1_countWords 10 = .ok (.ireturn, 1) := by decide +kernel
theorem dX1_wordOf_0 : decode cX1_wordOf 0 = .ok (.aload_n 0, 1) := by decide +kernel
theorem dX1_wordOf_1 : decode cX1_wordOf 1 = .ok (.getfield 18, 3) := by decide +kernel
theorem dX1_wordOf_4 : decode cX1_wordOf 4 = .ok (.iload_n 1, 1) := by decide +kernel
theorem dX1_wordOf_5 : decode cX1_wordOf 5 = .ok (.bipush 14, 2) := by decide +kernel
theorem dX1_wordOf_7 : decode cX1_wordOf 7 = .ok (.imul, 1) := by decide +kernel
theorem dX1_wordOf_8 : decode cX1_wordOf 8 = .ok (.iload_n 2, 1) := by decide +kernel
theorem dX1_wordOf_9 : decode cX1_wordOf 9 = .ok (.iadd, 1) := by decide +kernel
theorem dX1_wordOf_10 : decode cX1_wordOf 10 = .ok (.laload, 1) := by decide +kernel
theorem dX1_wordOf_11 : decode cX1_wordOf 11 = .ok (.lreturn, 1) := by decide +kernel
theorem dX1_learnPlaces_0 : decode cX1_learnPlaces 0 = .ok (.aload_n 0, 1) := by decide +kernel
theorem dX1_learnPlaces_1 : decode cX1_learnPlaces 1 = .ok (.invokevirtual 41, 3) := by decide +kernel
theorem dX1_learnPlaces_4 : decode cX1_learnPlaces 4 = .ok (.aload_n 0, 1) := by decide +kernel
theorem dX1_learnPlaces_5 : decode cX1_learnPlaces 5 = .ok (.getfield 55, 3) := by decide +kernel
theorem dX1_learnPlaces_8 : decode cX1_learnPlaces 8 = .ok (.ifCond .eq 13, 3) := by decide +kernel
theorem dX1_learnPlaces_11 : decode cX1_learnPlaces 11 = .ok (.aload_n 0, 1) := by decide +kernel
theorem dX1_learnPlaces_12 : decode cX1_learnPlaces 12 = .ok (.getfield 58, 3) := by decide +kernel
theorem dX1_learnPlaces_15 : decode cX1_learnPlaces 15 = .ok (.lload_n 1, 1) := by decide +kernel
theorem dX1_learnPlaces_16 : decode cX1_learnPlaces 16 = .ok (.lcmp, 1) := by decide +kernel
theorem dX1_learnPlaces_17 : decode cX1_learnPlaces 17 = .ok (.ifCond .ne 4, 3) := by decide +kernel
theorem dX1_learnPlaces_20 : decode cX1_learnPlaces 20 = .ok (.return_, 1) := by decide +kernel
theorem dX1_learnPlaces_21 : decode cX1_learnPlaces 21 = .ok (.aload_n 0, 1) := by decide +kernel
theorem dX1_learnPlaces_22 : decode cX1_learnPlaces 22 = .ok (.iconst 0, 1) := by decide +kernel
theorem dX1_learnPlaces_23 : decode cX1_learnPlaces 23 = .ok (.putfield 52, 3) := by decide +kernel
theorem dX1_learnPlaces_26 : decode cX1_learnPlaces 26 = .ok (.iconst 0, 1) := by decide +kernel
theorem dX1_learnPlaces_27 : decode cX1_learnPlaces 27 = .ok (.istore_n 3, 1) := by decide +kernel
theorem dX1_learnPlaces_28 : decode cX1_learnPlaces 28 = .ok (.iload_n 3, 1) := by decide +kernel
theorem dX1_learnPlaces_29 : decode cX1_learnPlaces 29 = .ok (.aload_n 0, 1) := by decide +kernel
theorem dX1_learnPlaces_30 : decode cX1_learnPlaces 30 = .ok (.getfield 44, 3) := by decide +kernel
theorem dX1_learnPlaces_33 : decode cX1_learnPlaces 33 = .ok (.if_icmp .ge 24, 3) := by decide +kernel
theorem dX1_learnPlaces_36 : decode cX1_learnPlaces 36 = .ok (.aload_n 0, 1) := by decide +kernel
theorem dX1_learnPlaces_37 : decode cX1_learnPlaces 37 = .ok (.aload_n 0, 1) := by decide +kernel
theorem dX1_learnPlaces_38 : decode cX1_learnPlaces 38 = .ok (.aload_n 0, 1) := by decide +kernel
theorem dX1_learnPlaces_39 : decode cX1_learnPlaces 39 = .ok (.getfield 11, 3) := by decide +kernel
theorem dX1_learnPlaces_42 : decode cX1_learnPlaces 42 = .ok (.iload_n 3, 1) := by decide +kernel
theorem dX1_learnPlaces_43 : decode cX1_learnPlaces 43 = .ok (.laload, 1) := by decide +kernel
theorem dX1_learnPlaces_44 : decode cX1_learnPlaces 44 = .ok (.lload_n 1, 1) := by decide +kernel
theorem dX1_learnPlaces_45 : decode cX1_learnPlaces 45 = .ok (.invokevirtual 61, 3) := by decide +kernel
theorem dX1_learnPlaces_48 : decode cX1_learnPlaces 48 = .ok (.invokevirtual 65, 3) := by decide +kernel
theorem dX1_learnPlaces_51 : decode cX1_learnPlaces 51 = .ok (.iinc 3 1, 3) := by decide +kernel
theorem dX1_learnPlaces_54 : decode cX1_learnPlaces 54 = .ok (.goto (-26), 3) := by decide +kernel
theorem dX1_learnPlaces_57 : decode cX1_learnPlaces 57 = .ok (.aload_n 0, 1) := by decide +kernel
theorem dX1_learnPlaces_58 : decode cX1_learnPlaces 58 = .ok (.invokevirtual 69, 3) := by decide +kernel
theorem dX1_learnPlaces_61 : decode cX1_learnPlaces 61 = .ok (.aload_n 0, 1) := by decide +kernel
theorem dX1_learnPlaces_62 : decode cX1_learnPlaces 62 = .ok (.lload_n 1, 1) := by decide +kernel
theorem dX1_learnPlaces_63 : decode cX1_learnPlaces 63 = .ok (.putfield 58, 3) := by decide +kernel
theorem dX1_learnPlaces_66 : decode cX1_learnPlaces 66 = .ok (.aload_n 0, 1) := by decide +kernel
theorem dX1_learnPlaces_67 : decode cX1_learnPlaces 67 = .ok (.iconst 1, 1) := by decide +kernel
theorem dX1_learnPlaces_68 : decode cX1_learnPlaces 68 = .ok (.putfield 55, 3) := by decide +kernel
theorem dX1_learnPlaces_71 : decode cX1_learnPlaces 71 = .ok (.return_, 1) := by decide +kernel
theorem dX1_forget_0 : decode cX1_forget 0 = .ok (.aload_n 0, 1) := by decide +kernel
theorem dX1_forget_1 : decode cX1_forget 1 = .ok (.iconst 0, 1) := by decide +kernel
theorem dX1_forget_2 : decode cX1_forget 2 = .ok (.putfield 72, 3) := by decide +kernel
theorem dX1_forget_5 : decode cX1_forget 5 = .ok (.aload_n 0, 1) := by decide +kernel
theorem dX1_forget_6 : decode cX1_forget 6 = .ok (.iconst 0, 1) := by decide +kernel
theorem dX1_forget_7 : decode cX1_forget 7 = .ok (.putfield 55, 3) := by decide +kernel
theorem dX1_forget_10 : decode cX1_forget 10 = .ok (.return_, 1) := by decide +kernel
theorem dX1_learnShapes_0 : decode cX1_learnShapes 0 = .ok (.aload_n 0, 1) := by decide +kernel
theorem dX1_learnShapes_1 : decode cX1_learnShapes 1 = .ok (.getfield 72, 3) := by decide +kernel
theorem dX1_learnShapes_4 : decode cX1_learnShapes 4 = .ok (.ifCond .eq 4, 3) := by decide +kernel
theorem dX1_learnShapes_7 : decode cX1_learnShapes 7 = .ok (.return_, 1) := by decide +kernel
theorem dX1_learnShapes_8 : decode cX1_learnShapes 8 = .ok (.aload_n 0, 1) := by decide +kernel
theorem dX1_learnShapes_9 : decode cX1_learnShapes 9 = .ok (.iconst 0, 1) := by decide +kernel
theorem dX1_learnShapes_10 : decode cX1_learnShapes 10 = .ok (.putfield 44, 3) := by decide +kernel
theorem dX1_learnShapes_13 : decode cX1_learnShapes 13 = .ok (.aload_n 0, 1) := by decide +kernel
theorem dX1_learnShapes_14 : decode cX1_learnShapes 14 = .ok (.getfield 24, 3) := by decide +kernel
theorem dX1_learnShapes_17 : decode cX1_learnShapes 17 = .ok (.invokestatic 75, 3) := by decide +kernel
theorem dX1_learnShapes_20 : decode cX1_learnShapes 20 = .ok (.ifCond .eq 46, 3) := by decide +kernel
theorem dX1_learnShapes_23 : decode cX1_learnShapes 23 = .ok (.iconst 0, 1) := by decide +kernel
theorem dX1_learnShapes_24 : decode cX1_learnShapes 24 = .ok (.istore_n 1, 1) := by decide +kernel
theorem dX1_learnShapes_25 : decode cX1_learnShapes 25 = .ok (.iload_n 1, 1) := by decide +kernel
theorem dX1_learnShapes_26 : decode cX1_learnShapes 26 = .ok (.bipush 48, 2) := by decide +kernel
theorem dX1_learnShapes_28 : decode cX1_learnShapes 28 = .ok (.if_icmp .ge 38, 3) := by decide +kernel
theorem dX1_learnShapes_31 : decode cX1_learnShapes 31 = .ok (.aload_n 0, 1) := by decide +kernel
theorem dX1_learnShapes_32 : decode cX1_learnShapes 32 = .ok (.getfield 37, 3) := by decide +kernel
theorem dX1_learnShapes_35 : decode cX1_learnShapes 35 = .ok (.ifCond .ne 10, 3) := by decide +kernel
theorem dX1_learnShapes_38 : decode cX1_learnShapes 38 = .ok (.iload_n 1, 1) := by decide +kernel
theorem dX1_learnShapes_39 : decode cX1_learnShapes 39 = .ok (.invokestatic 81, 3) := by decide +kernel
theorem dX1_learnShapes_42 : decode cX1_learnShapes 42 = .ok (.ifCond .ne 18, 3) := by decide +kernel
theorem dX1_learnShapes_45 : decode cX1_learnShapes 45 = .ok (.aload_n 0, 1) := by decide +kernel
theorem dX1_learnShapes_46 : decode cX1_learnShapes 46 = .ok (.aload_n 0, 1) := by decide +kernel
theorem dX1_learnShapes_47 : decode cX1_learnShapes 47 = .ok (.getfield 24, 3) := by decide +kernel
theorem dX1_learnShapes_50 : decode cX1_learnShapes 50 = .ok (.iload_n 1, 1) := by decide +kernel
theorem dX1_learnShapes_51 : decode cX1_learnShapes 51 = .ok (.invokestatic 85, 3) := by decide +kernel
theorem dX1_learnShapes_54 : decode cX1_learnShapes 54 = .ok (.invokestatic 89, 3) := by decide +kernel
theorem dX1_learnShapes_57 : decode cX1_learnShapes 57 = .ok (.invokevirtual 93, 3) := by decide +kernel
theorem dX1_learnShapes_60 : decode cX1_learnShapes 60 = .ok (.iinc 1 1, 3) := by decide +kernel
theorem dX1_learnShapes_63 : decode cX1_learnShapes 63 = .ok (.goto (-38), 3) := by decide +kernel
theorem dX1_learnShapes_66 : decode cX1_learnShapes 66 = .ok (.aload_n 0, 1) := by decide +kernel
theorem dX1_learnShapes_67 : decode cX1_learnShapes 67 = .ok (.iconst 1, 1) := by decide +kernel
theorem dX1_learnShapes_68 : decode cX1_learnShapes 68 = .ok (.putfield 72, 3) := by decide +kernel
theorem dX1_learnShapes_71 : decode cX1_learnShapes 71 = .ok (.return_, 1) := by decide +kernel
theorem dX1_addShape_0 : decode cX1_addShape 0 = .ok (.iconst 0, 1) := by decide +kernel
theorem dX1_addShape_1 : decode cX1_addShape 1 = .ok (.istore_n 3, 1) := by decide +kernel
theorem dX1_addShape_2 : decode cX1_addShape 2 = .ok (.iload_n 3, 1) := by decide +kernel
theorem dX1_addShape_3 : decode cX1_addShape 3 = .ok (.aload_n 0, 1) := by decide +kernel
theorem dX1_addShape_4 : decode cX1_addShape 4 = .ok (.getfield 44, 3) := by decide +kernel
theorem dX1_addShape_7 : decode cX1_addShape 7 = .ok (.if_icmp .ge 22, 3) := by decide +kernel
theorem dX1_addShape_10 : decode cX1_addShape 10 = .ok (.aload_n 0, 1) := by decide +kernel
theorem dX1_addShape_11 : decode cX1_addShape 11 = .ok (.getfield 11, 3) := by decide +kernel
theorem dX1_addShape_14 : decode cX1_addShape 14 = .ok (.iload_n 3, 1) := by decide +kernel
theorem dX1_addShape_15 : decode cX1_addShape 15 = .ok (.laload, 1) := by decide +kernel
theorem dX1_addShape_16 : decode cX1_addShape 16 = .ok (.lload_n 1, 1) := by decide +kernel
theorem dX1_addShape_17 : decode cX1_addShape 17 = .ok (.invokestatic 97, 3) := by decide +kernel
theorem dX1_addShape_20 : decode cX1_addShape 20 = .ok (.ifCond .eq 9, 3) := by decide +kernel
theorem dX1_addShape_23 : decode cX1_addShape 23 = .ok (.iinc 3 1, 3) := by decide +kernel
theorem dX1_addShape_26 : decode cX1_addShape 26 = .ok (.goto (-24), 3) := by decide +kernel
theorem dX1_addShape_29 : decode cX1_addShape 29 = .ok (.iload_n 3, 1) := by decide +kernel
theorem dX1_addShape_30 : decode cX1_addShape 30 = .ok (.aload_n 0, 1) := by decide +kernel
theorem dX1_addShape_31 : decode cX1_addShape 31 = .ok (.getfield 44, 3) := by decide +kernel
theorem dX1_addShape_34 : decode cX1_addShape 34 = .ok (.if_icmp .ge 14, 3) := by decide +kernel
theorem dX1_addShape_37 : decode cX1_addShape 37 = .ok (.aload_n 0, 1) := by decide +kernel
theorem dX1_addShape_38 : decode cX1_addShape 38 = .ok (.getfield 11, 3) := by decide +kernel
theorem dX1_addShape_41 : decode cX1_addShape 41 = .ok (.iload_n 3, 1) := by decide +kernel
theorem dX1_addShape_42 : decode cX1_addShape 42 = .ok (.laload, 1) := by decide +kernel
theorem dX1_addShape_43 : decode cX1_addShape 43 = .ok (.lload_n 1, 1) := by decide +kernel
theorem dX1_addShape_44 : decode cX1_addShape 44 = .ok (.lcmp, 1) := by decide +kernel
theorem dX1_addShape_45 : decode cX1_addShape 45 = .ok (.ifCond .eq 12, 3) := by decide +kernel
theorem dX1_addShape_48 : decode cX1_addShape 48 = .ok (.aload_n 0, 1) := by decide +kernel
theorem dX1_addShape_49 : decode cX1_addShape 49 = .ok (.getfield 44, 3) := by decide +kernel
theorem dX1_addShape_52 : decode cX1_addShape 52 = .ok (.bipush 48, 2) := by decide +kernel
theorem dX1_addShape_54 : decode cX1_addShape 54 = .ok (.if_icmp .lt 4, 3) := by decide +kernel
theorem dX1_addShape_57 : decode cX1_addShape 57 = .ok (.return_, 1) := by decide +kernel
theorem dX1_addShape_58 : decode cX1_addShape 58 = .ok (.aload_n 0, 1) := by decide +kernel
theorem dX1_addShape_59 : decode cX1_addShape 59 = .ok (.getfield 44, 3) := by decide +kernel
theorem dX1_addShape_62 : decode cX1_addShape 62 = .ok (.istore 4, 2) := by decide +kernel
theorem dX1_addShape_64 : decode cX1_addShape 64 = .ok (.iload 4, 2) := by decide +kernel
theorem dX1_addShape_66 : decode cX1_addShape 66 = .ok (.iload_n 3, 1) := by decide +kernel
theorem dX1_addShape_67 : decode cX1_addShape 67 = .ok (.if_icmp .le 25, 3) := by decide +kernel
theorem dX1_addShape_70 : decode cX1_addShape 70 = .ok (.aload_n 0, 1) := by decide +kernel
theorem dX1_addShape_71 : decode cX1_addShape 71 = .ok (.getfield 11, 3) := by decide +kernel
theorem dX1_addShape_74 : decode cX1_addShape 74 = .ok (.iload 4, 2) := by decide +kernel
theorem dX1_addShape_76 : decode cX1_addShape 76 = .ok (.aload_n 0, 1) := by decide +kernel
theorem dX1_addShape_77 : decode cX1_addShape 77 = .ok (.getfield 11, 3) := by decide +kernel
theorem dX1_addShape_80 : decode cX1_addShape 80 = .ok (.iload 4, 2) := by decide +kernel
theorem dX1_addShape_82 : decode cX1_addShape 82 = .ok (.iconst 1, 1) := by decide +kernel
theorem dX1_addShape_83 : decode cX1_addShape 83 = .ok (.isub, 1) := by decide +kernel
theorem dX1_addShape_84 : decode cX1_addShape 84 = .ok (.laload, 1) := by decide +kernel
theorem dX1_addShape_85 : decode cX1_addShape 85 = .ok (.lastore, 1) := by decide +kernel
theorem dX1_addShape_86 : decode cX1_addShape 86 = .ok (.iinc 4 (-1), 3) := by decide +kernel
theorem dX1_addShape_89 : decode cX1_addShape 89 = .ok (.goto (-25), 3) := by decide +kernel
theorem dX1_addShape_92 : decode cX1_addShape 92 = .ok (.aload_n 0, 1) := by decide +kernel
theorem dX1_addShape_93 : decode cX1_addShape 93 = .ok (.getfield 11, 3) := by decide +kernel
theorem dX1_addShape_96 : decode cX1_addShape 96 = .ok (.iload_n 3, 1) := by decide +kernel
theorem dX1_addShape_97 : decode cX1_addShape 97 = .ok (.lload_n 1, 1) := by decide +kernel
theorem dX1_addShape_98 : decode cX1_addShape 98 = .ok (.lastore, 1) := by decide +kernel
theorem dX1_addShape_99 : decode cX1_addShape 99 = .ok (.aload_n 0, 1) := by decide +kernel
theorem dX1_addShape_100 : decode cX1_addShape 100 = .ok (.dup, 1) := by decide +kernel
theorem dX1_addShape_101 : decode cX1_addShape 101 = .ok (.getfield 44, 3) := by decide +kernel
theorem dX1_addShape_104 : decode cX1_addShape 104 = .ok (.iconst 1, 1) := by decide +kernel
theorem dX1_addShape_105 : decode cX1_addShape 105 = .ok (.iadd, 1) := by decide +kernel
theorem dX1_addShape_106 : decode cX1_addShape 106 = .ok (.putfield 44, 3) := by decide +kernel
theorem dX1_addShape_109 : decode cX1_addShape 109 = .ok (.return_, 1) := by decide +kernel
theorem dX1_placeOneShape_0 : decode cX1_placeOneShape 0 = .ok (.iconst 3, 1) := by decide +kernel
theorem dX1_placeOneShape_1 : decode cX1_placeOneShape 1 = .ok (.lload_n 1, 1) := by decide +kernel
theorem dX1_placeOneShape_2 : decode cX1_placeOneShape 2 = .ok (.iconst 0, 1) := by decide +kernel
theorem dX1_placeOneShape_3 : decode cX1_placeOneShape 3 = .ok (.invokestatic 101, 3) := by decide +kernel
theorem dX1_placeOneShape_6 : decode cX1_placeOneShape 6 = .ok (.isub, 1) := by decide +kernel
theorem dX1_placeOneShape_7 : decode cX1_placeOneShape 7 = .ok (.istore 5, 2) := by decide +kernel
theorem dX1_placeOneShape_9 : decode cX1_placeOneShape 9 = .ok (.iconst 3, 1) := by decide +kernel
theorem dX1_placeOneShape_10 : decode cX1_placeOneShape 10 = .ok (.lload_n 1, 1) := by decide +kernel
theorem dX1_placeOneShape_11 : decode cX1_placeOneShape 11 = .ok (.iconst 1, 1) := by decide +kernel
theorem dX1_placeOneShape_12 : decode cX1_placeOneShape 12 = .ok (.invokestatic 101, 3) := by decide +kernel
theorem dX1_placeOneShape_15 : decode cX1_placeOneShape 15 = .ok (.isub, 1) := by decide +kernel
theorem dX1_placeOneShape_16 : decode cX1_placeOneShape 16 = .ok (.istore 6, 2) := by decide +kernel
theorem dX1_placeOneShape_18 : decode cX1_placeOneShape 18 = .ok (.iconst 3, 1) := by decide +kernel
theorem dX1_placeOneShape_19 : decode cX1_placeOneShape 19 = .ok (.lload_n 1, 1) := by decide +kernel
theorem dX1_placeOneShape_20 : decode cX1_placeOneShape 20 = .ok (.iconst 2, 1) := by decide +kernel
theorem dX1_placeOneShape_21 : decode cX1_placeOneShape 21 = .ok (.invokestatic 101, 3) := by decide +kernel
theorem dX1_placeOneShape_24 : decode cX1_placeOneShape 24 = .ok (.isub, 1) := by decide +kernel
theorem dX1_placeOneShape_25 : decode cX1_placeOneShape 25 = .ok (.istore 7, 2) := by decide +kernel
theorem dX1_placeOneShape_27 : decode cX1_placeOneShape 27 = .ok (.iconst 0, 1) := by decide +kernel
theorem dX1_placeOneShape_28 : decode cX1_placeOneShape 28 = .ok (.istore 8, 2) := by decide +kernel
theorem dX1_placeOneShape_30 : decode cX1_placeOneShape 30 = .ok (.iconst 0, 1) := by decide +kernel
theorem dX1_placeOneShape_31 : decode cX1_placeOneShape 31 = .ok (.istore 9, 2) := by decide +kernel
theorem dX1_placeOneShape_33 : decode cX1_placeOneShape 33 = .ok (.iload 9, 2) := by decide +kernel
theorem dX1_placeOneShape_35 : decode cX1_placeOneShape 35 = .ok (.iload 7, 2) := by decide +kernel
theorem dX1_placeOneShape_37 : decode cX1_placeOneShape 37 = .ok (.if_icmp .gt 83, 3) := by decide +kernel
theorem dX1_placeOneShape_40 : decode cX1_placeOneShape 40 = .ok (.iconst 0, 1) := by decide +kernel
theorem dX1_placeOneShape_41 : decode cX1_placeOneShape 41 = .ok (.istore 10, 2) := by decide +kernel
theorem dX1_placeOneShape_43 : decode cX1_placeOneShape 43 = .ok (.iload 10, 2) := by decide +kernel
theorem dX1_placeOneShape_45 : decode cX1_placeOneShape 45 = .ok (.iload 6, 2) := by decide +kernel
theorem dX1_placeOneShape_47 : decode cX1_placeOneShape 47 = .ok (.if_icmp .gt 67, 3) := by decide +kernel
theorem dX1_placeOneShape_50 : decode cX1_placeOneShape 50 = .ok (.iconst 0, 1) := by decide +kernel
theorem dX1_placeOneShape_51 : decode cX1_placeOneShape 51 = .ok (.istore 11, 2) := by decide +kernel
theorem dX1_placeOneShape_53 : decode cX1_placeOneShape 53 = .ok (.iload 11, 2) := by decide +kernel
theorem dX1_placeOneShape_55 : decode cX1_placeOneShape 55 = .ok (.iload 5, 2) := by decide +kernel
theorem dX1_placeOneShape_57 : decode cX1_placeOneShape 57 = .ok (.if_icmp .gt 51, 3) := by decide +kernel
theorem dX1_placeOneShape_60 : decode cX1_placeOneShape 60 = .ok (.lload_n 1, 1) := by decide +kernel
theorem dX1_placeOneShape_61 : decode cX1_placeOneShape 61 = .ok (.iload 11, 2) := by decide +kernel
theorem dX1_placeOneShape_63 : decode cX1_placeOneShape 63 = .ok (.iconst 4, 1) := by decide +kernel
theorem dX1_placeOneShape_64 : decode cX1_placeOneShape 64 = .ok (.iload 10, 2) := by decide +kernel
theorem dX1_placeOneShape_66 : decode cX1_placeOneShape 66 = .ok (.imul, 1) := by decide +kernel
theorem dX1_placeOneShape_67 : decode cX1_placeOneShape 67 = .ok (.iadd, 1) := by decide +kernel
theorem dX1_placeOneShape_68 : decode cX1_placeOneShape 68 = .ok (.bipush 16, 2) := by decide +kernel
theorem dX1_placeOneShape_70 : decode cX1_placeOneShape 70 = .ok (.iload 9, 2) := by decide +kernel
theorem dX1_placeOneShape_72 : decode cX1_placeOneShape 72 = .ok (.imul, 1) := by decide +kernel
theorem dX1_placeOneShape_73 : decode cX1_placeOneShape 73 = .ok (.iadd, 1) := by decide +kernel
theorem dX1_placeOneShape_74 : decode cX1_placeOneShape 74 = .ok (.lshl, 1) := by decide +kernel
theorem dX1_placeOneShape_75 : decode cX1_placeOneShape 75 = .ok (.lstore 12, 2) := by decide +kernel
theorem dX1_placeOneShape_77 : decode cX1_placeOneShape 77 = .ok (.lload 12, 2) := by decide +kernel
theorem dX1_placeOneShape_79 : decode cX1_placeOneShape 79 = .ok (.lload_n 3, 1) := by decide +kernel
theorem dX1_placeOneShape_80 : decode cX1_placeOneShape 80 = .ok (.ldc2_w 105, 3) := by decide +kernel
theorem dX1_placeOneShape_83 : decode cX1_placeOneShape 83 = .ok (.lxor, 1) := by decide +kernel
theorem dX1_placeOneShape_84 : decode cX1_placeOneShape 84 = .ok (.land, 1) := by decide +kernel
theorem dX1_placeOneShape_85 : decode cX1_placeOneShape 85 = .ok (.lconst 0, 1) := by decide +kernel
theorem dX1_placeOneShape_86 : decode cX1_placeOneShape 86 = .ok (.lcmp, 1) := by decide +kernel
theorem dX1_placeOneShape_87 : decode cX1_placeOneShape 87 = .ok (.ifCond .ne 15, 3) := by decide +kernel
theorem dX1_placeOneShape_90 : decode cX1_placeOneShape 90 = .ok (.aload_n 0, 1) := by decide +kernel
theorem dX1_placeOneShape_91 : decode cX1_placeOneShape 91 = .ok (.getfield 21, 3) := by decide +kernel
theorem dX1_placeOneShape_94 : decode cX1_placeOneShape 94 = .ok (.iload 8, 2) := by decide +kernel
theorem dX1_placeOneShape_96 : decode cX1_placeOneShape 96 = .ok (.lload 12, 2) := by decide +kernel
theorem dX1_placeOneShape_98 : decode cX1_placeOneShape 98 = .ok (.lastore, 1) := by decide +kernel
theorem dX1_placeOneShape_99 : decode cX1_placeOneShape 99 = .ok (.iinc 8 1, 3) := by decide +kernel
theorem dX1_placeOneShape_102 : decode cX1_placeOneShape 102 = .ok (.iinc 11 1, 3) := by decide +kernel
theorem dX1_placeOneShape_105 : decode cX1_placeOneShape 105 = .ok (.goto (-52), 3) := by decide +kernel
theorem dX1_placeOneShape_108 : decode cX1_placeOneShape 108 = .ok (.iinc 10 1, 3) := by decide +kernel
theorem dX1_placeOneShape_111 : decode cX1_placeOneShape 111 = .ok (.goto (-68), 3) := by decide +kernel
theorem dX1_placeOneShape_114 : decode cX1_placeOneShape 114 = .ok (.iinc 9 1, 3) := by decide +kernel
theorem dX1_placeOneShape_117 : decode cX1_placeOneShape 117 = .ok (.goto (-84), 3) := by decide +kernel
theorem dX1_placeOneShape_120 : decode cX1_placeOneShape 120 = .ok (.iload 8, 2) := by decide +kernel
theorem dX1_placeOneShape_122 : decode cX1_placeOneShape 122 = .ok (.ireturn, 1) := by decide +kernel
theorem dX1_mergeIn_0 : decode cX1_mergeIn 0 = .ok (.aload_n 0, 1) := by decide +kernel
theorem dX1_mergeIn_1 : decode cX1_mergeIn 1 = .ok (.getfield 52, 3) := by decide +kernel
theorem dX1_mergeIn_4 : decode cX1_mergeIn 4 = .ok (.iload_n 1, 1) := by decide +kernel
theorem dX1_mergeIn_5 : decode cX1_mergeIn 5 = .ok (.iadd, 1) := by decide +kernel
theorem dX1_mergeIn_6 : decode cX1_mergeIn 6 = .ok (.sipush 896, 3) := by decide +kernel
theorem dX1_mergeIn_9 : decode cX1_mergeIn 9 = .ok (.if_icmp .le 4, 3) := by decide +kernel
theorem dX1_mergeIn_12 : decode cX1_mergeIn 12 = .ok (.return_, 1) := by decide +kernel
theorem dX1_mergeIn_13 : decode cX1_mergeIn 13 = .ok (.aload_n 0, 1) := by decide +kernel
theorem dX1_mergeIn_14 : decode cX1_mergeIn 14 = .ok (.getfield 52, 3) := by decide +kernel
theorem dX1_mergeIn_17 : decode cX1_mergeIn 17 = .ok (.iconst 1, 1) := by decide +kernel
theorem dX1_mergeIn_18 : decode cX1_mergeIn 18 = .ok (.isub, 1) := by decide +kernel
theorem dX1_mergeIn_19 : decode cX1_mergeIn 19 = .ok (.istore_n 2, 1) := by decide +kernel
theorem dX1_mergeIn_20 : decode cX1_mergeIn 20 = .ok (.iload_n 1, 1) := by decide +kernel
theorem dX1_mergeIn_21 : decode cX1_mergeIn 21 = .ok (.iconst 1, 1) := by decide +kernel
theorem dX1_mergeIn_22 : decode cX1_mergeIn 22 = .ok (.isub, 1) := by decide +kernel
theorem dX1_mergeIn_23 : decode cX1_mergeIn 23 = .ok (.istore_n 3, 1) := by decide +kernel
theorem dX1_mergeIn_24 : decode cX1_mergeIn 24 = .ok (.aload_n 0, 1) := by decide +kernel
theorem dX1_mergeIn_25 : decode cX1_mergeIn 25 = .ok (.dup, 1) := by decide +kernel
theorem dX1_mergeIn_26 : decode cX1_mergeIn 26 = .ok (.getfield 52, 3) := by decide +kernel
theorem dX1_mergeIn_29 : decode cX1_mergeIn 29 = .ok (.iload_n 1, 1) := by decide +kernel
theorem dX1_mergeIn_30 : decode cX1_mergeIn 30 = .ok (.iadd, 1) := by decide +kernel
theorem dX1_mergeIn_31 : decode cX1_mergeIn 31 = .ok (.putfield 52, 3) := by decide +kernel
theorem dX1_mergeIn_34 : decode cX1_mergeIn 34 = .ok (.aload_n 0, 1) := by decide +kernel
theorem dX1_mergeIn_35 : decode cX1_mergeIn 35 = .ok (.getfield 52, 3) := by decide +kernel
theorem dX1_mergeIn_38 : decode cX1_mergeIn 38 = .ok (.iconst 1, 1) := by decide +kernel
theorem dX1_mergeIn_39 : decode cX1_mergeIn 39 = .ok (.isub, 1) := by decide +kernel
theorem dX1_mergeIn_40 : decode cX1_mergeIn 40 = .ok (.istore 4, 2) := by decide +kernel
theorem dX1_mergeIn_42 : decode cX1_mergeIn 42 = .ok (.iload 4, 2) := by decide +kernel
theorem dX1_mergeIn_44 : decode cX1_mergeIn 44 = .ok (.ifCond .lt 70, 3) := by decide +kernel
theorem dX1_mergeIn_47 : decode cX1_mergeIn 47 = .ok (.iload_n 3, 1) := by decide +kernel
theorem dX1_mergeIn_48 : decode cX1_mergeIn 48 = .ok (.ifCond .lt 66, 3) := by decide +kernel
theorem dX1_mergeIn_51 : decode cX1_mergeIn 51 = .ok (.iload_n 2, 1) := by decide +kernel
theorem dX1_mergeIn_52 : decode cX1_mergeIn 52 = .ok (.ifCond .lt 40, 3) := by decide +kernel
theorem dX1_mergeIn_55 : decode cX1_mergeIn 55 = .ok (.aload_n 0, 1) := by decide +kernel
theorem dX1_mergeIn_56 : decode cX1_mergeIn 56 = .ok (.getfield 21, 3) := by decide +kernel
theorem dX1_mergeIn_59 : decode cX1_mergeIn 59 = .ok (.iload_n 3, 1) := by decide +kernel
theorem dX1_mergeIn_60 : decode cX1_mergeIn 60 = .ok (.laload, 1) := by decide +kernel
theorem dX1_mergeIn_61 : decode cX1_mergeIn 61 = .ok (.aload_n 0, 1) := by decide +kernel
theorem dX1_mergeIn_62 : decode cX1_mergeIn 62 = .ok (.getfield 15, 3) := by decide +kernel
theorem dX1_mergeIn_65 : decode cX1_mergeIn 65 = .ok (.iload_n 2, 1) := by decide +kernel
theorem dX1_mergeIn_66 : decode cX1_mergeIn 66 = .ok (.laload, 1) := by decide +kernel
theorem dX1_mergeIn_67 : decode cX1_mergeIn 67 = .ok (.invokestatic 97, 3) := by decide +kernel
theorem dX1_mergeIn_70 : decode cX1_mergeIn 70 = .ok (.ifCond .eq 22, 3) := by decide +kernel
theorem dX1_mergeIn_73 : decode cX1_mergeIn 73 = .ok (.aload_n 0, 1) := by decide +kernel
theorem dX1_mergeIn_74 : decode cX1_mergeIn 74 = .ok (.getfield 15, 3) := by decide +kernel
theorem dX1_mergeIn_77 : decode cX1_mergeIn 77 = .ok (.iload 4, 2) := by decide +kernel
theorem dX1_mergeIn_79 : decode cX1_mergeIn 79 = .ok (.aload_n 0, 1) := by decide +kernel
theorem dX1_mergeIn_80 : decode cX1_mergeIn 80 = .ok (.getfield 15, 3) := by decide +kernel
theorem dX1_mergeIn_83 : decode cX1_mergeIn 83 = .ok (.iload_n 2, 1) := by decide +kernel
theorem dX1_mergeIn_84 : decode cX1_mergeIn 84 = .ok (.laload, 1) := by decide +kernel
theorem dX1_mergeIn_85 : decode cX1_mergeIn 85 = .ok (.lastore, 1) := by decide +kernel
theorem dX1_mergeIn_86 : decode cX1_mergeIn 86 = .ok (.iinc 2 (-1), 3) := by decide +kernel
theorem dX1_mergeIn_89 : decode cX1_mergeIn 89 = .ok (.goto 19, 3) := by decide +kernel
theorem dX1_mergeIn_92 : decode cX1_mergeIn 92 = .ok (.aload_n 0, 1) := by decide +kernel
theorem dX1_mergeIn_93 : decode cX1_mergeIn 93 = .ok (.getfield 15, 3) := by decide +kernel
theorem dX1_mergeIn_96 : decode cX1_mergeIn 96 = .ok (.iload 4, 2) := by decide +kernel
theorem dX1_mergeIn_98 : decode cX1_mergeIn 98 = .ok (.aload_n 0, 1) := by decide +kernel
theorem dX1_mergeIn_99 : decode cX1_mergeIn 99 = .ok (.getfield 21, 3) := by decide +kernel
theorem dX1_mergeIn_102 : decode cX1_mergeIn 102 = .ok (.iload_n 3, 1) := by decide +kernel
theorem dX1_mergeIn_103 : decode cX1_mergeIn 103 = .ok (.laload, 1) := by decide +kernel
theorem dX1_mergeIn_104 : decode cX1_mergeIn 104 = .ok (.lastore, 1) := by decide +kernel
theorem dX1_mergeIn_105 : decode cX1_mergeIn 105 = .ok (.iinc 3 (-1), 3) := by decide +kernel
theorem dX1_mergeIn_108 : decode cX1_mergeIn 108 = .ok (.iinc 4 (-1), 3) := by decide +kernel
theorem dX1_mergeIn_111 : decode cX1_mergeIn 111 = .ok (.goto (-69), 3) := by decide +kernel
theorem dX1_mergeIn_114 : decode cX1_mergeIn 114 = .ok (.return_, 1) := by decide +kernel
theorem dX1_indexPlaces_0 : decode cX1_indexPlaces 0 = .ok (.aload_n 0, 1) := by decide +kernel
theorem dX1_indexPlaces_1 : decode cX1_indexPlaces 1 = .ok (.getfield 18, 3) := by decide +kernel
theorem dX1_indexPlaces_4 : decode cX1_indexPlaces 4 = .ok (.lconst 0, 1) := by decide +kernel
theorem dX1_indexPlaces_5 : decode cX1_indexPlaces 5 = .ok (.invokestatic 107, 3) := by decide +kernel
theorem dX1_indexPlaces_8 : decode cX1_indexPlaces 8 = .ok (.iconst 0, 1) := by decide +kernel
theorem dX1_indexPlaces_9 : decode cX1_indexPlaces 9 = .ok (.istore_n 1, 1) := by decide +kernel
theorem dX1_indexPlaces_10 : decode cX1_indexPlaces 10 = .ok (.iload_n 1, 1) := by decide +kernel
theorem dX1_indexPlaces_11 : decode cX1_indexPlaces 11 = .ok (.aload_n 0, 1) := by decide +kernel
theorem dX1_indexPlaces_12 : decode cX1_indexPlaces 12 = .ok (.getfield 52, 3) := by decide +kernel
theorem dX1_indexPlaces_15 : decode cX1_indexPlaces 15 = .ok (.if_icmp .ge 81, 3) := by decide +kernel
theorem dX1_indexPlaces_18 : decode cX1_indexPlaces 18 = .ok (.iload_n 1, 1) := by decide +kernel
theorem dX1_indexPlaces_19 : decode cX1_indexPlaces 19 = .ok (.bipush 64, 2) := by decide +kernel
theorem dX1_indexPlaces_21 : decode cX1_indexPlaces 21 = .ok (.idiv, 1) := by decide +kernel
theorem dX1_indexPlaces_22 : decode cX1_indexPlaces 22 = .ok (.istore_n 2, 1) := by decide +kernel
theorem dX1_indexPlaces_23 : decode cX1_indexPlaces 23 = .ok (.lconst 1, 1) := by decide +kernel
theorem dX1_indexPlaces_24 : decode cX1_indexPlaces 24 = .ok (.iload_n 1, 1) := by decide +kernel
theorem dX1_indexPlaces_25 : decode cX1_indexPlaces 25 = .ok (.bipush 64, 2) := by decide +kernel
theorem dX1_indexPlaces_27 : decode cX1_indexPlaces 27 = .ok (.irem, 1) := by decide +kernel
theorem dX1_indexPlaces_28 : decode cX1_indexPlaces 28 = .ok (.lshl, 1) := by decide +kernel
theorem dX1_indexPlaces_29 : decode cX1_indexPlaces 29 = .ok (.lstore_n 3, 1) := by decide +kernel
theorem dX1_indexPlaces_30 : decode cX1_indexPlaces 30 = .ok (.aload_n 0, 1) := by decide +kernel
theorem dX1_indexPlaces_31 : decode cX1_indexPlaces 31 = .ok (.getfield 18, 3) := by decide +kernel
theorem dX1_indexPlaces_34 : decode cX1_indexPlaces 34 = .ok (.sipush 896, 3) := by decide +kernel
theorem dX1_indexPlaces_37 : decode cX1_indexPlaces 37 = .ok (.iload_n 2, 1) := by decide +kernel
theorem dX1_indexPlaces_38 : decode cX1_indexPlaces 38 = .ok (.iadd, 1) := by decide +kernel
theorem dX1_indexPlaces_39 : decode cX1_indexPlaces 39 = .ok (.dup2, 1) := by decide +kernel
theorem dX1_indexPlaces_40 : decode cX1_indexPlaces 40 = .ok (.laload, 1) := by decide +kernel
theorem dX1_indexPlaces_41 : decode cX1_indexPlaces 41 = .ok (.lload_n 3, 1) := by decide +kernel
theorem dX1_indexPlaces_42 : decode cX1_indexPlaces 42 = .ok (.lor, 1) := by decide +kernel
theorem dX1_indexPlaces_43 : decode cX1_indexPlaces 43 = .ok (.lastore, 1) := by decide +kernel
theorem dX1_indexPlaces_44 : decode cX1_indexPlaces 44 = .ok (.aload_n 0, 1) := by decide +kernel
theorem dX1_indexPlaces_45 : decode cX1_indexPlaces 45 = .ok (.getfield 15, 3) := by decide +kernel
theorem dX1_indexPlaces_48 : decode cX1_indexPlaces 48 = .ok (.iload_n 1, 1) := by decide +kernel
theorem dX1_indexPlaces_49 : decode cX1_indexPlaces 49 = .ok (.laload, 1) := by decide +kernel
theorem dX1_indexPlaces_50 : decode cX1_indexPlaces 50 = .ok (.lstore 5, 2) := by decide +kernel
theorem dX1_indexPlaces_52 : decode cX1_indexPlaces 52 = .ok (.lload 5, 2) := by decide +kernel
theorem dX1_indexPlaces_54 : decode cX1_indexPlaces 54 = .ok (.lconst 0, 1) := by decide +kernel
theorem dX1_indexPlaces_55 : decode cX1_indexPlaces 55 = .ok (.lcmp, 1) := by decide +kernel
theorem dX1_indexPlaces_56 : decode cX1_indexPlaces 56 = .ok (.ifCond .eq 34, 3) := by decide +kernel
theorem dX1_indexPlaces_59 : decode cX1_indexPlaces 59 = .ok (.aload_n 0, 1) := by decide +kernel
theorem dX1_indexPlaces_60 : decode cX1_indexPlaces 60 = .ok (.getfield 18, 3) := by decide +kernel
theorem dX1_indexPlaces_63 : decode cX1_indexPlaces 63 = .ok (.lload 5, 2) := by decide +kernel
theorem dX1_indexPlaces_65 : decode cX1_indexPlaces 65 = .ok (.invokestatic 113, 3) := by decide +kernel
theorem dX1_indexPlaces_68 : decode cX1_indexPlaces 68 = .ok (.bipush 14, 2) := by decide +kernel
theorem dX1_indexPlaces_70 : decode cX1_indexPlaces 70 = .ok (.imul, 1) := by decide +kernel
theorem dX1_indexPlaces_71 : decode cX1_indexPlaces 71 = .ok (.iload_n 2, 1) := by decide +kernel
theorem dX1_indexPlaces_72 : decode cX1_indexPlaces 72 = .ok (.iadd, 1) := by decide +kernel
theorem dX1_indexPlaces_73 : decode cX1_indexPlaces 73 = .ok (.dup2, 1) := by decide +kernel
theorem dX1_indexPlaces_74 : decode cX1_indexPlaces 74 = .ok (.laload, 1) := by decide +kernel
theorem dX1_indexPlaces_75 : decode cX1_indexPlaces 75 = .ok (.lload_n 3, 1) := by decide +kernel
theorem dX1_indexPlaces_76 : decode cX1_indexPlaces 76 = .ok (.lor, 1) := by decide +kernel
theorem dX1_indexPlaces_77 : decode cX1_indexPlaces 77 = .ok (.lastore, 1) := by decide +kernel
theorem dX1_indexPlaces_78 : decode cX1_indexPlaces 78 = .ok (.lload 5, 2) := by decide +kernel
theorem dX1_indexPlaces_80 : decode cX1_indexPlaces 80 = .ok (.lload 5, 2) := by decide +kernel
theorem dX1_indexPlaces_82 : decode cX1_indexPlaces 82 = .ok (.lconst 1, 1) := by decide +kernel
theorem dX1_indexPlaces_83 : decode cX1_indexPlaces 83 = .ok (.lsub, 1) := by decide +kernel
theorem dX1_indexPlaces_84 : decode cX1_indexPlaces 84 = .ok (.land, 1) := by decide +kernel
theorem dX1_indexPlaces_85 : decode cX1_indexPlaces 85 = .ok (.lstore 5, 2) := by decide +kernel
theorem dX1_indexPlaces_87 : decode cX1_indexPlaces 87 = .ok (.goto (-35), 3) := by decide +kernel
theorem dX1_indexPlaces_90 : decode cX1_indexPlaces 90 = .ok (.iinc 1 1, 3) := by decide +kernel
theorem dX1_indexPlaces_93 : decode cX1_indexPlaces 93 = .ok (.goto (-83), 3) := by decide +kernel
theorem dX1_indexPlaces_96 : decode cX1_indexPlaces 96 = .ok (.return_, 1) := by decide +kernel
theorem dX2_init_0 : decode cX2_init 0 = .ok (.aload_n 0, 1) := by decide +kernel
theorem dX2_init_1 : decode cX2_init 1 = .ok (.invokespecial 3, 3) := by decide +kernel
theorem dX2_init_4 : decode cX2_init 4 = .ok (.aload_n 0, 1) := by decide +kernel
theorem dX2_init_5 : decode cX2_init 5 = .ok (.aload_n 1, 1) := by decide +kernel
theorem dX2_init_6 : decode cX2_init 6 = .ok (.putfield 9, 3) := by decide +kernel
theorem dX2_init_9 : decode cX2_init 9 = .ok (.aload_n 0, 1) := by decide +kernel
theorem dX2_init_10 : decode cX2_init 10 = .ok (.bipush 6, 2) := by decide +kernel
theorem dX2_init_12 : decode cX2_init 12 = .ok (.newarray .long, 2) := by decide +kernel
theorem dX2_init_14 : decode cX2_init 14 = .ok (.putfield 15, 3) := by decide +kernel
theorem dX2_init_17 : decode cX2_init 17 = .ok (.return_, 1) := by decide +kernel
theorem dX2_countTried_0 : decode cX2_countTried 0 = .ok (.aload_n 0, 1) := by decide +kernel
theorem dX2_countTried_1 : decode cX2_countTried 1 = .ok (.getfield 19, 3) := by decide +kernel
theorem dX2_countTried_4 : decode cX2_countTried 4 = .ok (.ireturn, 1) := by decide +kernel
theorem dX2_countFound_0 : decode cX2_countFound 0 = .ok (.aload_n 0, 1) := by decide +kernel
theorem dX2_countFound_1 : decode cX2_countFound 1 = .ok (.getfield 23, 3) := by decide +kernel
theorem dX2_countFound_4 : decode cX2_countFound 4 = .ok (.ireturn, 1) := by decide +kernel
theorem dX2_wasEnough_0 : decode cX2_wasEnough 0 = .ok (.aload_n 0, 1) := by decide +kernel
theorem dX2_wasEnough_1 : decode cX2_wasEnough 1 = .ok (.getfield 26, 3) := by decide +kernel
theorem dX2_wasEnough_4 : decode cX2_wasEnough 4 = .ok (.ireturn, 1) := by decide +kernel
theorem dX2_hasWanted_0 : decode cX2_hasWanted 0 = .ok (.aload_n 0, 1) := by decide +kernel
theorem dX2_hasWanted_1 : decode cX2_hasWanted 1 = .ok (.getfield 30, 3) := by decide +kernel
theorem dX2_hasWanted_4 : decode cX2_hasWanted 4 = .ok (.iconst (-1), 1) := by decide +kernel
theorem dX2_hasWanted_5 : decode cX2_hasWanted 5 = .ok (.if_icmp .eq 18, 3) := by decide +kernel
theorem dX2_hasWanted_8 : decode cX2_hasWanted 8 = .ok (.aload_n 0, 1) := by decide +kernel
theorem dX2_hasWanted_9 : decode cX2_hasWanted 9 = .ok (.getfield 23, 3) := by decide +kernel
theorem dX2_hasWanted_12 : decode cX2_hasWanted 12 = .ok (.aload_n 0, 1) := by decide +kernel
theorem dX2_hasWanted_13 : decode cX2_hasWanted 13 = .ok (.getfield 30, 3) := by decide +kernel
theorem dX2_hasWanted_16 : decode cX2_hasWanted 16 = .ok (.if_icmp .le 7, 3) := by decide +kernel
theorem dX2_hasWanted_19 : decode cX2_hasWanted 19 = .ok (.iconst 1, 1) := by decide +kernel
theorem dX2_hasWanted_20 : decode cX2_hasWanted 20 = .ok (.goto 4, 3) := by decide +kernel
theorem dX2_hasWanted_23 : decode cX2_hasWanted 23 = .ok (.iconst 0, 1) := by decide +kernel
theorem dX2_hasWanted_24 : decode cX2_hasWanted 24 = .ok (.ireturn, 1) := by decide +kernel
theorem dX2_chosenFor_0 : decode cX2_chosenFor 0 = .ok (.aload_n 0, 1) := by decide +kernel
theorem dX2_chosenFor_1 : decode cX2_chosenFor 1 = .ok (.getfield 15, 3) := by decide +kernel
theorem dX2_chosenFor_4 : decode cX2_chosenFor 4 = .ok (.iload_n 1, 1) := by decide +kernel
theorem dX2_chosenFor_5 : decode cX2_chosenFor 5 = .ok (.laload, 1) := by decide +kernel
theorem dX2_chosenFor_6 : decode cX2_chosenFor 6 = .ok (.lreturn, 1) := by decide +kernel
theorem dX2_run_0 : decode cX2_run 0 = .ok (.aload_n 0, 1) := by decide +kernel
theorem dX2_run_1 : decode cX2_run 1 = .ok (.lload_n 1, 1) := by decide +kernel
theorem dX2_run_2 : decode cX2_run 2 = .ok (.putfield 33, 3) := by decide +kernel
theorem dX2_run_5 : decode cX2_run 5 = .ok (.aload_n 0, 1) := by decide +kernel
theorem dX2_run_6 : decode cX2_run 6 = .ok (.iload 5, 2) := by decide +kernel
theorem dX2_run_8 : decode cX2_run 8 = .ok (.putfield 37, 3) := by decide +kernel
theorem dX2_run_11 : decode cX2_run 11 = .ok (.aload_n 0, 1) := by decide +kernel
theorem dX2_run_12 : decode cX2_run 12 = .ok (.iload 6, 2) := by decide +kernel
theorem dX2_run_14 : decode cX2_run 14 = .ok (.putfield 30, 3) := by decide +kernel
theorem dX2_run_17 : decode cX2_run 17 = .ok (.aload_n 0, 1) := by decide +kernel
theorem dX2_run_18 : decode cX2_run 18 = .ok (.iconst 0, 1) := by decide +kernel
theorem dX2_run_19 : decode cX2_run 19 = .ok (.putfield 19, 3) := by decide +kernel
theorem dX2_run_22 : decode cX2_run 22 = .ok (.aload_n 0, 1) := by decide +kernel
theorem dX2_run_23 : decode cX2_run 23 = .ok (.iconst 0, 1) := by decide +kernel
theorem dX2_run_24 : decode cX2_run 24 = .ok (.putfield 23, 3) := by decide +kernel
theorem dX2_run_27 : decode cX2_run 27 = .ok (.aload_n 0, 1) := by decide +kernel
theorem dX2_run_28 : decode cX2_run 28 = .ok (.iconst 0, 1) := by decide +kernel
theorem dX2_run_29 : decode cX2_run 29 = .ok (.putfield 40, 3) := by decide +kernel
theorem dX2_run_32 : decode cX2_run 32 = .ok (.aload_n 0, 1) := by decide +kernel
theorem dX2_run_33 : decode cX2_run 33 = .ok (.iconst 1, 1) := by decide +kernel
theorem dX2_run_34 : decode cX2_run 34 = .ok (.putfield 26, 3) := by decide +kernel
theorem dX2_run_37 : decode cX2_run 37 = .ok (.iconst 0, 1) := by decide +kernel
theorem dX2_run_38 : decode cX2_run 38 = .ok (.istore 7, 2) := by decide +kernel
theorem dX2_run_40 : decode cX2_run 40 = .ok (.iconst 0, 1) := by decide +kernel
theorem dX2_run_41 : decode cX2_run 41 = .ok (.istore 8, 2) := by decide +kernel
theorem dX2_run_43 : decode cX2_run 43 = .ok (.iload 8, 2) := by decide +kernel
theorem dX2_run_45 : decode cX2_run 45 = .ok (.bipush 6, 2) := by decide +kernel
theorem dX2_run_47 : decode cX2_run 47 = .ok (.if_icmp .ge 52, 3) := by decide +kernel
theorem dX2_run_50 : decode cX2_run 50 = .ok (.aload_n 0, 1) := by decide +kernel
theorem dX2_run_51 : decode cX2_run 51 = .ok (.getfield 15, 3) := by decide +kernel
theorem dX2_run_54 : decode cX2_run 54 = .ok (.iload 8, 2) := by decide +kernel
theorem dX2_run_56 : decode cX2_run 56 = .ok (.lconst 0, 1) := by decide +kernel
theorem dX2_run_57 : decode cX2_run 57 = .ok (.lastore, 1) := by decide +kernel
theorem dX2_run_58 : decode cX2_run 58 = .ok (.aload_n 0, 1) := by decide +kernel
theorem dX2_run_59 : decode cX2_run 59 = .ok (.getfield 9, 3) := by decide +kernel
theorem dX2_run_62 : decode cX2_run 62 = .ok (.iload 8, 2) := by decide +kernel
theorem dX2_run_64 : decode cX2_run 64 = .ok (.aaload, 1) := by decide +kernel
theorem dX2_run_65 : decode cX2_run 65 = .ok (.invokevirtual 43, 3) := by decide +kernel
theorem dX2_run_68 : decode cX2_run 68 = .ok (.ifCond .le 25, 3) := by decide +kernel
theorem dX2_run_71 : decode cX2_run 71 = .ok (.aload_n 0, 1) := by decide +kernel
theorem dX2_run_72 : decode cX2_run 72 = .ok (.getfield 9, 3) := by decide +kernel
theorem dX2_run_75 : decode cX2_run 75 = .ok (.iload 8, 2) := by decide +kernel
theorem dX2_run_77 : decode cX2_run 77 = .ok (.aaload, 1) := by decide +kernel
theorem dX2_run_78 : decode cX2_run 78 = .ok (.lload_n 1, 1) := by decide +kernel
theorem dX2_run_79 : decode cX2_run 79 = .ok (.lload_n 3, 1) := by decide +kernel
theorem dX2_run_80 : decode cX2_run 80 = .ok (.lor, 1) := by decide +kernel
theorem dX2_run_81 : decode cX2_run 81 = .ok (.invokevirtual 49, 3) := by decide +kernel
theorem dX2_run_84 : decode cX2_run 84 = .ok (.iload 7, 2) := by decide +kernel
theorem dX2_run_86 : decode cX2_run 86 = .ok (.iconst 1, 1) := by decide +kernel
theorem dX2_run_87 : decode cX2_run 87 = .ok (.iload 8, 2) := by decide +kernel
theorem dX2_run_89 : decode cX2_run 89 = .ok (.ishl, 1) := by decide +kernel
theorem dX2_run_90 : decode cX2_run 90 = .ok (.ior, 1) := by decide +kernel
theorem dX2_run_91 : decode cX2_run 91 = .ok (.istore 7, 2) := by decide +kernel
theorem dX2_run_93 : decode cX2_run 93 = .ok (.iinc 8 1, 3) := by decide +kernel
theorem dX2_run_96 : decode cX2_run 96 = .ok (.goto (-53), 3) := by decide +kernel
theorem dX2_run_99 : decode cX2_run 99 = .ok (.aload_n 0, 1) := by decide +kernel
theorem dX2_run_100 : decode cX2_run 100 = .ok (.iconst 0, 1) := by decide +kernel
theorem dX2_run_101 : decode cX2_run 101 = .ok (.lconst 0, 1) := by decide +kernel
theorem dX2_run_102 : decode cX2_run 102 = .ok (.iload 7, 2) := by decide +kernel
theorem dX2_run_104 : decode cX2_run 104 = .ok (.invokevirtual 53, 3) := by decide +kernel
theorem dX2_run_107 : decode cX2_run 107 = .ok (.return_, 1) := by decide +kernel
theorem dX2_goOn_0 : decode cX2_goOn 0 = .ok (.aload_n 0, 1) := by decide +kernel
theorem dX2_goOn_1 : decode cX2_goOn 1 = .ok (.getfield 33, 3) := by decide +kernel
theorem dX2_goOn_4 : decode cX2_goOn 4 = .ok (.lload_n 2, 1) := by decide +kernel
theorem dX2_goOn_5 : decode cX2_goOn 5 = .ok (.ldc2_w 57, 3) := by decide +kernel
theorem dX2_goOn_8 : decode cX2_goOn 8 = .ok (.lxor, 1) := by decide +kernel
theorem dX2_goOn_9 : decode cX2_goOn 9 = .ok (.land, 1) := by decide +kernel
theorem dX2_goOn_10 : decode cX2_goOn 10 = .ok (.lstore 5, 2) := by decide +kernel
theorem dX2_goOn_12 : decode cX2_goOn 12 = .ok (.iload 4, 2) := by decide +kernel
theorem dX2_goOn_14 : decode cX2_goOn 14 = .ok (.ifCond .eq 9, 3) := by decide +kernel
theorem dX2_goOn_17 : decode cX2_goOn 17 = .ok (.iload_n 1, 1) := by decide +kernel
theorem dX2_goOn_18 : decode cX2_goOn 18 = .ok (.bipush 6, 2) := by decide +kernel
theorem dX2_goOn_20 : decode cX2_goOn 20 = .ok (.if_icmp .lt 22, 3) := by decide +kernel
theorem dX2_goOn_23 : decode cX2_goOn 23 = .ok (.iload 4, 2) := by decide +kernel
theorem dX2_goOn_25 : decode cX2_goOn 25 = .ok (.ifCond .ne 92, 3) := by decide +kernel
theorem dX2_goOn_28 : decode cX2_goOn 28 = .ok (.lload 5, 2) := by decide +kernel
theorem dX2_goOn_30 : decode cX2_goOn 30 = .ok (.lconst 0, 1) := by decide +kernel
theorem dX2_goOn_31 : decode cX2_goOn 31 = .ok (.lcmp, 1) := by decide +kernel
theorem dX2_goOn_32 : decode cX2_goOn 32 = .ok (.ifCond .ne 85, 3) := by decide +kernel
theorem dX2_goOn_35 : decode cX2_goOn 35 = .ok (.aload_n 0, 1) := by decide +kernel
theorem dX2_goOn_36 : decode cX2_goOn 36 = .ok (.invokevirtual 59, 3) := by decide +kernel
theorem dX2_goOn_39 : decode cX2_goOn 39 = .ok (.goto 78, 3) := by decide +kernel
theorem dX2_goOn_42 : decode cX2_goOn 42 = .ok (.lload 5, 2) := by decide +kernel
theorem dX2_goOn_44 : decode cX2_goOn 44 = .ok (.lconst 0, 1) := by decide +kernel
theorem dX2_goOn_45 : decode cX2_goOn 45 = .ok (.lcmp, 1) := by decide +kernel
theorem dX2_goOn_46 : decode cX2_goOn 46 = .ok (.ifCond .ne 21, 3) := by decide +kernel
theorem dX2_goOn_49 : decode cX2_goOn 49 = .ok (.aload_n 0, 1) := by decide +kernel
theorem dX2_goOn_50 : decode cX2_goOn 50 = .ok (.iload 4, 2) := by decide +kernel
theorem dX2_goOn_52 : decode cX2_goOn 52 = .ok (.invokestatic 62, 3) := by decide +kernel
theorem dX2_goOn_55 : decode cX2_goOn 55 = .ok (.bipush 64, 2) := by decide +kernel
theorem dX2_goOn_57 : decode cX2_goOn 57 = .ok (.iload_n 1, 1) := by decide +kernel
theorem dX2_goOn_58 : decode cX2_goOn 58 = .ok (.lload_n 2, 1) := by decide +kernel
theorem dX2_goOn_59 : decode cX2_goOn 59 = .ok (.iload 4, 2) := by decide +kernel
theorem dX2_goOn_61 : decode cX2_goOn 61 = .ok (.invokevirtual 66, 3) := by decide +kernel
theorem dX2_goOn_64 : decode cX2_goOn 64 = .ok (.goto 53, 3) := by decide +kernel
theorem dX2_goOn_67 : decode cX2_goOn 67 = .ok (.lload 5, 2) := by decide +kernel
theorem dX2_goOn_69 : decode cX2_goOn 69 = .ok (.invokestatic 70, 3) := by decide +kernel
theorem dX2_goOn_72 : decode cX2_goOn 72 = .ok (.istore 7, 2) := by decide +kernel
theorem dX2_goOn_74 : decode cX2_goOn 74 = .ok (.iload 4, 2) := by decide +kernel
theorem dX2_goOn_76 : decode cX2_goOn 76 = .ok (.istore 8, 2) := by decide +kernel
theorem dX2_goOn_78 : decode cX2_goOn 78 = .ok (.iload 8, 2) := by decide +kernel
theorem dX2_goOn_80 : decode cX2_goOn 80 = .ok (.ifCond .eq 37, 3) := by decide +kernel
theorem dX2_goOn_83 : decode cX2_goOn 83 = .ok (.aload_n 0, 1) := by decide +kernel
theorem dX2_goOn_84 : decode cX2_goOn 84 = .ok (.getfield 40, 3) := by decide +kernel
theorem dX2_goOn_87 : decode cX2_goOn 87 = .ok (.ifCond .ne 30, 3) := by decide +kernel
theorem dX2_goOn_90 : decode cX2_goOn 90 = .ok (.aload_n 0, 1) := by decide +kernel
theorem dX2_goOn_91 : decode cX2_goOn 91 = .ok (.iload 8, 2) := by decide +kernel
theorem dX2_goOn_93 : decode cX2_goOn 93 = .ok (.invokestatic 62, 3) := by decide +kernel
theorem dX2_goOn_96 : decode cX2_goOn 96 = .ok (.iload 7, 2) := by decide +kernel
theorem dX2_goOn_98 : decode cX2_goOn 98 = .ok (.iload_n 1, 1) := by decide +kernel
theorem dX2_goOn_99 : decode cX2_goOn 99 = .ok (.lload_n 2, 1) := by decide +kernel
theorem dX2_goOn_100 : decode cX2_goOn 100 = .ok (.iload 4, 2) := by decide +kernel
theorem dX2_goOn_102 : decode cX2_goOn 102 = .ok (.invokevirtual 66, 3) := by decide +kernel
theorem dX2_goOn_105 : decode cX2_goOn 105 = .ok (.iload 8, 2) := by decide +kernel
theorem dX2_goOn_107 : decode cX2_goOn 107 = .ok (.iload 8, 2) := by decide +kernel
theorem dX2_goOn_109 : decode cX2_goOn 109 = .ok (.iconst 1, 1) := by decide +kernel
theorem dX2_goOn_110 : decode cX2_goOn 110 = .ok (.isub, 1) := by decide +kernel
theorem dX2_goOn_111 : decode cX2_goOn 111 = .ok (.iand, 1) := by decide +kernel
theorem dX2_goOn_112 : decode cX2_goOn 112 = .ok (.istore 8, 2) := by decide +kernel
theorem dX2_goOn_114 : decode cX2_goOn 114 = .ok (.goto (-36), 3) := by decide +kernel
theorem dX2_goOn_117 : decode cX2_goOn 117 = .ok (.return_, 1) := by decide +kernel
theorem dX2_countPacking_0 : decode cX2_countPacking 0 = .ok (.aload_n 0, 1) := by decide +kernel
theorem dX2_countPacking_1 : decode cX2_countPacking 1 = .ok (.getfield 23, 3) := by decide +kernel
theorem dX2_countPacking_4 : decode cX2_countPacking 4 = .ok (.aload_n 0, 1) := by decide +kernel
theorem dX2_countPacking_5 : decode cX2_countPacking 5 = .ok (.getfield 30, 3) := by decide +kernel
