theorem dX5_measureRoom_87 : decode cX5_measureRoom 87 = .ok (.iinc 4 1, 3) := by decide +kernel
theorem dX5_measureRoom_90 : decode cX5_measureRoom 90 = .ok (.goto (-51), 3) := by decide +kernel
theorem dX5_measureRoom_93 : decode cX5_measureRoom 93 = .ok (.iinc 3 1, 3) := by decide +kernel
theorem dX5_measureRoom_96 : decode cX5_measureRoom 96 = .ok (.goto (-84), 3) := by decide +kernel
theorem dX5_measureRoom_99 : decode cX5_measureRoom 99 = .ok (.iinc 2 1, 3) := by decide +kernel
theorem dX5_measureRoom_102 : decode cX5_measureRoom 102 = .ok (.goto (-100), 3) := by decide +kernel
theorem dX5_measureRoom_105 : decode cX5_measureRoom 105 = .ok (.return_, 1) := by decide +kernel
theorem dX5_roomIndex_0 : decode cX5_roomIndex 0 = .ok (.iload_n 0, 1) := by decide +kernel
theorem dX5_roomIndex_1 : decode cX5_roomIndex 1 = .ok (.bipush 6, 2) := by decide +kernel
theorem dX5_roomIndex_3 : decode cX5_roomIndex 3 = .ok (.imul, 1) := by decide +kernel
theorem dX5_roomIndex_4 : decode cX5_roomIndex 4 = .ok (.iload_n 1, 1) := by decide +kernel
theorem dX5_roomIndex_5 : decode cX5_roomIndex 5 = .ok (.iadd, 1) := by decide +kernel
theorem dX5_roomIndex_6 : decode cX5_roomIndex 6 = .ok (.bipush 6, 2) := by decide +kernel
theorem dX5_roomIndex_8 : decode cX5_roomIndex 8 = .ok (.imul, 1) := by decide +kernel
theorem dX5_roomIndex_9 : decode cX5_roomIndex 9 = .ok (.iload_n 2, 1) := by decide +kernel
theorem dX5_roomIndex_10 : decode cX5_roomIndex 10 = .ok (.iadd, 1) := by decide +kernel
theorem dX5_roomIndex_11 : decode cX5_roomIndex 11 = .ok (.ireturn, 1) := by decide +kernel
theorem dX5_roomOfPair_0 : decode cX5_roomOfPair 0 = .ok (.iload 4, 2) := by decide +kernel
theorem dX5_roomOfPair_2 : decode cX5_roomOfPair 2 = .ok (.iconst 2, 1) := by decide +kernel
theorem dX5_roomOfPair_3 : decode cX5_roomOfPair 3 = .ok (.idiv, 1) := by decide +kernel
theorem dX5_roomOfPair_4 : decode cX5_roomOfPair 4 = .ok (.istore 5, 2) := by decide +kernel
theorem dX5_roomOfPair_6 : decode cX5_roomOfPair 6 = .ok (.iload 4, 2) := by decide +kernel
theorem dX5_roomOfPair_8 : decode cX5_roomOfPair 8 = .ok (.iconst 2, 1) := by decide +kernel
theorem dX5_roomOfPair_9 : decode cX5_roomOfPair 9 = .ok (.irem, 1) := by decide +kernel
theorem dX5_roomOfPair_10 : decode cX5_roomOfPair 10 = .ok (.ifCond .ne 7, 3) := by decide +kernel
theorem dX5_roomOfPair_13 : decode cX5_roomOfPair 13 = .ok (.iconst 1, 1) := by decide +kernel
theorem dX5_roomOfPair_14 : decode cX5_roomOfPair 14 = .ok (.goto 4, 3) := by decide +kernel
theorem dX5_roomOfPair_17 : decode cX5_roomOfPair 17 = .ok (.iconst (-1), 1) := by decide +kernel
theorem dX5_roomOfPair_18 : decode cX5_roomOfPair 18 = .ok (.istore 6, 2) := by decide +kernel
theorem dX5_roomOfPair_20 : decode cX5_roomOfPair 20 = .ok (.aload_n 0, 1) := by decide +kernel
theorem dX5_roomOfPair_21 : decode cX5_roomOfPair 21 = .ok (.getfield 18, 3) := by decide +kernel
theorem dX5_roomOfPair_24 : decode cX5_roomOfPair 24 = .ok (.iload_n 2, 1) := by decide +kernel
theorem dX5_roomOfPair_25 : decode cX5_roomOfPair 25 = .ok (.laload, 1) := by decide +kernel
theorem dX5_roomOfPair_26 : decode cX5_roomOfPair 26 = .ok (.lstore 7, 2) := by decide +kernel
theorem dX5_roomOfPair_28 : decode cX5_roomOfPair 28 = .ok (.iconst 0, 1) := by decide +kernel
theorem dX5_roomOfPair_29 : decode cX5_roomOfPair 29 = .ok (.istore 9, 2) := by decide +kernel
theorem dX5_roomOfPair_31 : decode cX5_roomOfPair 31 = .ok (.iload 9, 2) := by decide +kernel
theorem dX5_roomOfPair_33 : decode cX5_roomOfPair 33 = .ok (.iconst 3, 1) := by decide +kernel
theorem dX5_roomOfPair_34 : decode cX5_roomOfPair 34 = .ok (.if_icmp .ge 34, 3) := by decide +kernel
theorem dX5_roomOfPair_37 : decode cX5_roomOfPair 37 = .ok (.iload 9, 2) := by decide +kernel
theorem dX5_roomOfPair_39 : decode cX5_roomOfPair 39 = .ok (.iload 5, 2) := by decide +kernel
theorem dX5_roomOfPair_41 : decode cX5_roomOfPair 41 = .ok (.if_icmp .eq 21, 3) := by decide +kernel
theorem dX5_roomOfPair_44 : decode cX5_roomOfPair 44 = .ok (.lload 7, 2) := by decide +kernel
theorem dX5_roomOfPair_46 : decode cX5_roomOfPair 46 = .ok (.iload 9, 2) := by decide +kernel
theorem dX5_roomOfPair_48 : decode cX5_roomOfPair 48 = .ok (.aload_n 0, 1) := by decide +kernel
theorem dX5_roomOfPair_49 : decode cX5_roomOfPair 49 = .ok (.iload_n 1, 1) := by decide +kernel
theorem dX5_roomOfPair_50 : decode cX5_roomOfPair 50 = .ok (.iload_n 2, 1) := by decide +kernel
theorem dX5_roomOfPair_51 : decode cX5_roomOfPair 51 = .ok (.iload_n 3, 1) := by decide +kernel
theorem dX5_roomOfPair_52 : decode cX5_roomOfPair 52 = .ok (.iload 9, 2) := by decide +kernel
theorem dX5_roomOfPair_54 : decode cX5_roomOfPair 54 = .ok (.invokevirtual 132, 3) := by decide +kernel
theorem dX5_roomOfPair_57 : decode cX5_roomOfPair 57 = .ok (.invokestatic 135, 3) := by decide +kernel
theorem dX5_roomOfPair_60 : decode cX5_roomOfPair 60 = .ok (.lstore 7, 2) := by decide +kernel
theorem dX5_roomOfPair_62 : decode cX5_roomOfPair 62 = .ok (.iinc 9 1, 3) := by decide +kernel
theorem dX5_roomOfPair_65 : decode cX5_roomOfPair 65 = .ok (.goto (-34), 3) := by decide +kernel
theorem dX5_roomOfPair_68 : decode cX5_roomOfPair 68 = .ok (.iload 6, 2) := by decide +kernel
theorem dX5_roomOfPair_70 : decode cX5_roomOfPair 70 = .ok (.aload_n 0, 1) := by decide +kernel
theorem dX5_roomOfPair_71 : decode cX5_roomOfPair 71 = .ok (.iload_n 1, 1) := by decide +kernel
theorem dX5_roomOfPair_72 : decode cX5_roomOfPair 72 = .ok (.iload_n 2, 1) := by decide +kernel
theorem dX5_roomOfPair_73 : decode cX5_roomOfPair 73 = .ok (.iload_n 3, 1) := by decide +kernel
theorem dX5_roomOfPair_74 : decode cX5_roomOfPair 74 = .ok (.iload 5, 2) := by decide +kernel
theorem dX5_roomOfPair_76 : decode cX5_roomOfPair 76 = .ok (.invokevirtual 132, 3) := by decide +kernel
theorem dX5_roomOfPair_79 : decode cX5_roomOfPair 79 = .ok (.imul, 1) := by decide +kernel
theorem dX5_roomOfPair_80 : decode cX5_roomOfPair 80 = .ok (.istore 9, 2) := by decide +kernel
theorem dX5_roomOfPair_82 : decode cX5_roomOfPair 82 = .ok (.iconst 1, 1) := by decide +kernel
theorem dX5_roomOfPair_83 : decode cX5_roomOfPair 83 = .ok (.bipush (-3), 2) := by decide +kernel
theorem dX5_roomOfPair_85 : decode cX5_roomOfPair 85 = .ok (.iload 9, 2) := by decide +kernel
theorem dX5_roomOfPair_87 : decode cX5_roomOfPair 87 = .ok (.isub, 1) := by decide +kernel
theorem dX5_roomOfPair_88 : decode cX5_roomOfPair 88 = .ok (.invokestatic 141, 3) := by decide +kernel
theorem dX5_roomOfPair_91 : decode cX5_roomOfPair 91 = .ok (.istore 10, 2) := by decide +kernel
theorem dX5_roomOfPair_93 : decode cX5_roomOfPair 93 = .ok (.iload 10, 2) := by decide +kernel
theorem dX5_roomOfPair_95 : decode cX5_roomOfPair 95 = .ok (.iconst 4, 1) := by decide +kernel
theorem dX5_roomOfPair_96 : decode cX5_roomOfPair 96 = .ok (.iload 9, 2) := by decide +kernel
theorem dX5_roomOfPair_98 : decode cX5_roomOfPair 98 = .ok (.isub, 1) := by decide +kernel
theorem dX5_roomOfPair_99 : decode cX5_roomOfPair 99 = .ok (.if_icmp .ge 41, 3) := by decide +kernel
theorem dX5_roomOfPair_102 : decode cX5_roomOfPair 102 = .ok (.lload 7, 2) := by decide +kernel
theorem dX5_roomOfPair_104 : decode cX5_roomOfPair 104 = .ok (.iload 5, 2) := by decide +kernel
theorem dX5_roomOfPair_106 : decode cX5_roomOfPair 106 = .ok (.iload 6, 2) := by decide +kernel
theorem dX5_roomOfPair_108 : decode cX5_roomOfPair 108 = .ok (.iload 9, 2) := by decide +kernel
theorem dX5_roomOfPair_110 : decode cX5_roomOfPair 110 = .ok (.iload 10, 2) := by decide +kernel
theorem dX5_roomOfPair_112 : decode cX5_roomOfPair 112 = .ok (.iadd, 1) := by decide +kernel
theorem dX5_roomOfPair_113 : decode cX5_roomOfPair 113 = .ok (.imul, 1) := by decide +kernel
theorem dX5_roomOfPair_114 : decode cX5_roomOfPair 114 = .ok (.invokestatic 135, 3) := by decide +kernel
theorem dX5_roomOfPair_117 : decode cX5_roomOfPair 117 = .ok (.aload_n 0, 1) := by decide +kernel
theorem dX5_roomOfPair_118 : decode cX5_roomOfPair 118 = .ok (.getfield 18, 3) := by decide +kernel
theorem dX5_roomOfPair_121 : decode cX5_roomOfPair 121 = .ok (.iload_n 3, 1) := by decide +kernel
theorem dX5_roomOfPair_122 : decode cX5_roomOfPair 122 = .ok (.laload, 1) := by decide +kernel
theorem dX5_roomOfPair_123 : decode cX5_roomOfPair 123 = .ok (.land, 1) := by decide +kernel
theorem dX5_roomOfPair_124 : decode cX5_roomOfPair 124 = .ok (.lconst 0, 1) := by decide +kernel
theorem dX5_roomOfPair_125 : decode cX5_roomOfPair 125 = .ok (.lcmp, 1) := by decide +kernel
theorem dX5_roomOfPair_126 : decode cX5_roomOfPair 126 = .ok (.ifCond .eq 8, 3) := by decide +kernel
theorem dX5_roomOfPair_129 : decode cX5_roomOfPair 129 = .ok (.iload 10, 2) := by decide +kernel
theorem dX5_roomOfPair_131 : decode cX5_roomOfPair 131 = .ok (.iconst 1, 1) := by decide +kernel
theorem dX5_roomOfPair_132 : decode cX5_roomOfPair 132 = .ok (.isub, 1) := by decide +kernel
theorem dX5_roomOfPair_133 : decode cX5_roomOfPair 133 = .ok (.ireturn, 1) := by decide +kernel
theorem dX5_roomOfPair_134 : decode cX5_roomOfPair 134 = .ok (.iinc 10 1, 3) := by decide +kernel
theorem dX5_roomOfPair_137 : decode cX5_roomOfPair 137 = .ok (.goto (-44), 3) := by decide +kernel
theorem dX5_roomOfPair_140 : decode cX5_roomOfPair 140 = .ok (.sipush 500, 3) := by decide +kernel
theorem dX5_roomOfPair_143 : decode cX5_roomOfPair 143 = .ok (.ireturn, 1) := by decide +kernel
theorem dX5_gap_0 : decode cX5_gap 0 = .ok (.aload_n 0, 1) := by decide +kernel
theorem dX5_gap_1 : decode cX5_gap 1 = .ok (.getfield 12, 3) := by decide +kernel
theorem dX5_gap_4 : decode cX5_gap 4 = .ok (.invokevirtual 114, 3) := by decide +kernel
theorem dX5_gap_7 : decode cX5_gap 7 = .ok (.astore 5, 2) := by decide +kernel
theorem dX5_gap_9 : decode cX5_gap 9 = .ok (.aload 5, 2) := by decide +kernel
theorem dX5_gap_11 : decode cX5_gap 11 = .ok (.aload_n 0, 1) := by decide +kernel
theorem dX5_gap_12 : decode cX5_gap 12 = .ok (.getfield 12, 3) := by decide +kernel
theorem dX5_gap_15 : decode cX5_gap 15 = .ok (.iload_n 1, 1) := by decide +kernel
theorem dX5_gap_16 : decode cX5_gap 16 = .ok (.iload_n 2, 1) := by decide +kernel
theorem dX5_gap_17 : decode cX5_gap 17 = .ok (.invokevirtual 118, 3) := by decide +kernel
theorem dX5_gap_20 : decode cX5_gap 20 = .ok (.iload 4, 2) := by decide +kernel
theorem dX5_gap_22 : decode cX5_gap 22 = .ok (.iadd, 1) := by decide +kernel
theorem dX5_gap_23 : decode cX5_gap 23 = .ok (.iaload, 1) := by decide +kernel
theorem dX5_gap_24 : decode cX5_gap 24 = .ok (.aload 5, 2) := by decide +kernel
theorem dX5_gap_26 : decode cX5_gap 26 = .ok (.aload_n 0, 1) := by decide +kernel
theorem dX5_gap_27 : decode cX5_gap 27 = .ok (.getfield 12, 3) := by decide +kernel
theorem dX5_gap_30 : decode cX5_gap 30 = .ok (.iload_n 1, 1) := by decide +kernel
theorem dX5_gap_31 : decode cX5_gap 31 = .ok (.iload_n 3, 1) := by decide +kernel
theorem dX5_gap_32 : decode cX5_gap 32 = .ok (.invokevirtual 118, 3) := by decide +kernel
theorem dX5_gap_35 : decode cX5_gap 35 = .ok (.iload 4, 2) := by decide +kernel
theorem dX5_gap_37 : decode cX5_gap 37 = .ok (.iadd, 1) := by decide +kernel
theorem dX5_gap_38 : decode cX5_gap 38 = .ok (.iaload, 1) := by decide +kernel
theorem dX5_gap_39 : decode cX5_gap 39 = .ok (.isub, 1) := by decide +kernel
theorem dX5_gap_40 : decode cX5_gap 40 = .ok (.ireturn, 1) := by decide +kernel
theorem dX5_roomOfGroup_0 : decode cX5_roomOfGroup 0 = .ok (.aload_n 0, 1) := by decide +kernel
theorem dX5_roomOfGroup_1 : decode cX5_roomOfGroup 1 = .ok (.getfield 51, 3) := by decide +kernel
theorem dX5_roomOfGroup_4 : decode cX5_roomOfGroup 4 = .ok (.iload_n 1, 1) := by decide +kernel
theorem dX5_roomOfGroup_5 : decode cX5_roomOfGroup 5 = .ok (.iconst (-1), 1) := by decide +kernel
theorem dX5_roomOfGroup_6 : decode cX5_roomOfGroup 6 = .ok (.ixor, 1) := by decide +kernel
theorem dX5_roomOfGroup_7 : decode cX5_roomOfGroup 7 = .ok (.iand, 1) := by decide +kernel
theorem dX5_roomOfGroup_8 : decode cX5_roomOfGroup 8 = .ok (.istore_n 3, 1) := by decide +kernel
theorem dX5_roomOfGroup_9 : decode cX5_roomOfGroup 9 = .ok (.sipush 500, 3) := by decide +kernel
theorem dX5_roomOfGroup_12 : decode cX5_roomOfGroup 12 = .ok (.istore 4, 2) := by decide +kernel
theorem dX5_roomOfGroup_14 : decode cX5_roomOfGroup 14 = .ok (.iload_n 1, 1) := by decide +kernel
theorem dX5_roomOfGroup_15 : decode cX5_roomOfGroup 15 = .ok (.istore 5, 2) := by decide +kernel
theorem dX5_roomOfGroup_17 : decode cX5_roomOfGroup 17 = .ok (.iload 5, 2) := by decide +kernel
theorem dX5_roomOfGroup_19 : decode cX5_roomOfGroup 19 = .ok (.ifCond .eq 74, 3) := by decide +kernel
theorem dX5_roomOfGroup_22 : decode cX5_roomOfGroup 22 = .ok (.iload_n 2, 1) := by decide +kernel
theorem dX5_roomOfGroup_23 : decode cX5_roomOfGroup 23 = .ok (.iload 5, 2) := by decide +kernel
theorem dX5_roomOfGroup_25 : decode cX5_roomOfGroup 25 = .ok (.invokestatic 146, 3) := by decide +kernel
theorem dX5_roomOfGroup_28 : decode cX5_roomOfGroup 28 = .ok (.iconst 0, 1) := by decide +kernel
theorem dX5_roomOfGroup_29 : decode cX5_roomOfGroup 29 = .ok (.invokestatic 129, 3) := by decide +kernel
theorem dX5_roomOfGroup_32 : decode cX5_roomOfGroup 32 = .ok (.istore 6, 2) := by decide +kernel
theorem dX5_roomOfGroup_34 : decode cX5_roomOfGroup 34 = .ok (.iload_n 3, 1) := by decide +kernel
theorem dX5_roomOfGroup_35 : decode cX5_roomOfGroup 35 = .ok (.istore 7, 2) := by decide +kernel
theorem dX5_roomOfGroup_37 : decode cX5_roomOfGroup 37 = .ok (.iload 7, 2) := by decide +kernel
theorem dX5_roomOfGroup_39 : decode cX5_roomOfGroup 39 = .ok (.ifCond .eq 35, 3) := by decide +kernel
theorem dX5_roomOfGroup_42 : decode cX5_roomOfGroup 42 = .ok (.iload 4, 2) := by decide +kernel
theorem dX5_roomOfGroup_44 : decode cX5_roomOfGroup 44 = .ok (.aload_n 0, 1) := by decide +kernel
theorem dX5_roomOfGroup_45 : decode cX5_roomOfGroup 45 = .ok (.getfield 36, 3) := by decide +kernel
theorem dX5_roomOfGroup_48 : decode cX5_roomOfGroup 48 = .ok (.iload 6, 2) := by decide +kernel
theorem dX5_roomOfGroup_50 : decode cX5_roomOfGroup 50 = .ok (.iload 7, 2) := by decide +kernel
theorem dX5_roomOfGroup_52 : decode cX5_roomOfGroup 52 = .ok (.invokestatic 146, 3) := by decide +kernel
theorem dX5_roomOfGroup_55 : decode cX5_roomOfGroup 55 = .ok (.iadd, 1) := by decide +kernel
theorem dX5_roomOfGroup_56 : decode cX5_roomOfGroup 56 = .ok (.iaload, 1) := by decide +kernel
theorem dX5_roomOfGroup_57 : decode cX5_roomOfGroup 57 = .ok (.invokestatic 149, 3) := by decide +kernel
theorem dX5_roomOfGroup_60 : decode cX5_roomOfGroup 60 = .ok (.istore 4, 2) := by decide +kernel
theorem dX5_roomOfGroup_62 : decode cX5_roomOfGroup 62 = .ok (.iload 7, 2) := by decide +kernel
theorem dX5_roomOfGroup_64 : decode cX5_roomOfGroup 64 = .ok (.iload 7, 2) := by decide +kernel
theorem dX5_roomOfGroup_66 : decode cX5_roomOfGroup 66 = .ok (.iconst 1, 1) := by decide +kernel
theorem dX5_roomOfGroup_67 : decode cX5_roomOfGroup 67 = .ok (.isub, 1) := by decide +kernel
theorem dX5_roomOfGroup_68 : decode cX5_roomOfGroup 68 = .ok (.iand, 1) := by decide +kernel
theorem dX5_roomOfGroup_69 : decode cX5_roomOfGroup 69 = .ok (.istore 7, 2) := by decide +kernel
theorem dX5_roomOfGroup_71 : decode cX5_roomOfGroup 71 = .ok (.goto (-34), 3) := by decide +kernel
theorem dX5_roomOfGroup_74 : decode cX5_roomOfGroup 74 = .ok (.iload 4, 2) := by decide +kernel
theorem dX5_roomOfGroup_76 : decode cX5_roomOfGroup 76 = .ok (.ifCond .ne 5, 3) := by decide +kernel
theorem dX5_roomOfGroup_79 : decode cX5_roomOfGroup 79 = .ok (.iconst 0, 1) := by decide +kernel
theorem dX5_roomOfGroup_80 : decode cX5_roomOfGroup 80 = .ok (.ireturn, 1) := by decide +kernel
theorem dX5_roomOfGroup_81 : decode cX5_roomOfGroup 81 = .ok (.iload 5, 2) := by decide +kernel
theorem dX5_roomOfGroup_83 : decode cX5_roomOfGroup 83 = .ok (.iload 5, 2) := by decide +kernel
theorem dX5_roomOfGroup_85 : decode cX5_roomOfGroup 85 = .ok (.iconst 1, 1) := by decide +kernel
theorem dX5_roomOfGroup_86 : decode cX5_roomOfGroup 86 = .ok (.isub, 1) := by decide +kernel
theorem dX5_roomOfGroup_87 : decode cX5_roomOfGroup 87 = .ok (.iand, 1) := by decide +kernel
theorem dX5_roomOfGroup_88 : decode cX5_roomOfGroup 88 = .ok (.istore 5, 2) := by decide +kernel
theorem dX5_roomOfGroup_90 : decode cX5_roomOfGroup 90 = .ok (.goto (-73), 3) := by decide +kernel
theorem dX5_roomOfGroup_93 : decode cX5_roomOfGroup 93 = .ok (.iload 4, 2) := by decide +kernel
theorem dX5_roomOfGroup_95 : decode cX5_roomOfGroup 95 = .ok (.ireturn, 1) := by decide +kernel
theorem dX6_init_0 : decode cX6_init 0 = .ok (.aload_n 0, 1) := by decide +kernel
theorem dX6_init_1 : decode cX6_init 1 = .ok (.invokespecial 1, 3) := by decide +kernel
theorem dX6_init_4 : decode cX6_init 4 = .ok (.aload_n 0, 1) := by decide +kernel
theorem dX6_init_5 : decode cX6_init 5 = .ok (.bipush 6, 2) := by decide +kernel
theorem dX6_init_7 : decode cX6_init 7 = .ok (.anewarray 9, 3) := by decide +kernel
theorem dX6_init_10 : decode cX6_init 10 = .ok (.putfield 11, 3) := by decide +kernel
theorem dX6_init_13 : decode cX6_init 13 = .ok (.iconst 0, 1) := by decide +kernel
theorem dX6_init_14 : decode cX6_init 14 = .ok (.istore_n 1, 1) := by decide +kernel
theorem dX6_init_15 : decode cX6_init 15 = .ok (.iload_n 1, 1) := by decide +kernel
theorem dX6_init_16 : decode cX6_init 16 = .ok (.bipush 6, 2) := by decide +kernel
theorem dX6_init_18 : decode cX6_init 18 = .ok (.if_icmp .ge 22, 3) := by decide +kernel
theorem dX6_init_21 : decode cX6_init 21 = .ok (.aload_n 0, 1) := by decide +kernel
theorem dX6_init_22 : decode cX6_init 22 = .ok (.getfield 11, 3) := by decide +kernel
theorem dX6_init_25 : decode cX6_init 25 = .ok (.iload_n 1, 1) := by decide +kernel
theorem dX6_init_26 : decode cX6_init 26 = .ok (.new 9, 3) := by decide +kernel
theorem dX6_init_29 : decode cX6_init 29 = .ok (.dup, 1) := by decide +kernel
theorem dX6_init_30 : decode cX6_init 30 = .ok (.invokespecial 15, 3) := by decide +kernel
theorem dX6_init_33 : decode cX6_init 33 = .ok (.aastore, 1) := by decide +kernel
theorem dX6_init_34 : decode cX6_init 34 = .ok (.iinc 1 1, 3) := by decide +kernel
theorem dX6_init_37 : decode cX6_init 37 = .ok (.goto (-22), 3) := by decide +kernel
theorem dX6_init_40 : decode cX6_init 40 = .ok (.aload_n 0, 1) := by decide +kernel
theorem dX6_init_41 : decode cX6_init 41 = .ok (.bipush 6, 2) := by decide +kernel
theorem dX6_init_43 : decode cX6_init 43 = .ok (.newarray .long, 2) := by decide +kernel
theorem dX6_init_45 : decode cX6_init 45 = .ok (.putfield 16, 3) := by decide +kernel
theorem dX6_init_48 : decode cX6_init 48 = .ok (.aload_n 0, 1) := by decide +kernel
theorem dX6_init_49 : decode cX6_init 49 = .ok (.new 20, 3) := by decide +kernel
theorem dX6_init_52 : decode cX6_init 52 = .ok (.dup, 1) := by decide +kernel
theorem dX6_init_53 : decode cX6_init 53 = .ok (.aload_n 0, 1) := by decide +kernel
theorem dX6_init_54 : decode cX6_init 54 = .ok (.getfield 11, 3) := by decide +kernel
theorem dX6_init_57 : decode cX6_init 57 = .ok (.invokespecial 22, 3) := by decide +kernel
theorem dX6_init_60 : decode cX6_init 60 = .ok (.putfield 25, 3) := by decide +kernel
theorem dX6_init_63 : decode cX6_init 63 = .ok (.aload_n 0, 1) := by decide +kernel
theorem dX6_init_64 : decode cX6_init 64 = .ok (.new 29, 3) := by decide +kernel
theorem dX6_init_67 : decode cX6_init 67 = .ok (.dup, 1) := by decide +kernel
theorem dX6_init_68 : decode cX6_init 68 = .ok (.invokespecial 31, 3) := by decide +kernel
theorem dX6_init_71 : decode cX6_init 71 = .ok (.putfield 32, 3) := by decide +kernel
theorem dX6_init_74 : decode cX6_init 74 = .ok (.return_, 1) := by decide +kernel
theorem dX6_cube_0 : decode cX6_cube 0 = .ok (.iload_n 1, 1) := by decide +kernel
theorem dX6_cube_1 : decode cX6_cube 1 = .ok (.invokestatic 36, 3) := by decide +kernel
theorem dX6_cube_4 : decode cX6_cube 4 = .ok (.iload_n 2, 1) := by decide +kernel
theorem dX6_cube_5 : decode cX6_cube 5 = .ok (.invokestatic 40, 3) := by decide +kernel
theorem dX6_cube_8 : decode cX6_cube 8 = .ok (.aload_n 0, 1) := by decide +kernel
theorem dX6_cube_9 : decode cX6_cube 9 = .ok (.getfield 11, 3) := by decide +kernel
theorem dX6_cube_12 : decode cX6_cube 12 = .ok (.iload_n 1, 1) := by decide +kernel
theorem dX6_cube_13 : decode cX6_cube 13 = .ok (.aaload, 1) := by decide +kernel
theorem dX6_cube_14 : decode cX6_cube 14 = .ok (.astore 4, 2) := by decide +kernel
theorem dX6_cube_16 : decode cX6_cube 16 = .ok (.aload 4, 2) := by decide +kernel
theorem dX6_cube_18 : decode cX6_cube 18 = .ok (.iload_n 2, 1) := by decide +kernel
theorem dX6_cube_19 : decode cX6_cube 19 = .ok (.invokevirtual 43, 3) := by decide +kernel
theorem dX6_cube_22 : decode cX6_cube 22 = .ok (.iload_n 3, 1) := by decide +kernel
theorem dX6_cube_23 : decode cX6_cube 23 = .ok (.if_icmp .ne 13, 3) := by decide +kernel
theorem dX6_cube_26 : decode cX6_cube 26 = .ok (.new 47, 3) := by decide +kernel
theorem dX6_cube_29 : decode cX6_cube 29 = .ok (.dup, 1) := by decide +kernel
theorem dX6_cube_30 : decode cX6_cube 30 = .ok (.ldc 49, 2) := by decide +kernel
theorem dX6_cube_32 : decode cX6_cube 32 = .ok (.invokespecial 51, 3) := by decide +kernel
theorem dX6_cube_35 : decode cX6_cube 35 = .ok (.athrow, 1) := by decide +kernel
theorem dX6_cube_36 : decode cX6_cube 36 = .ok (.iload_n 3, 1) := by decide +kernel
theorem dX6_cube_37 : decode cX6_cube 37 = .ok (.ifCond .eq 23, 3) := by decide +kernel
theorem dX6_cube_40 : decode cX6_cube 40 = .ok (.aload 4, 2) := by decide +kernel
theorem dX6_cube_42 : decode cX6_cube 42 = .ok (.invokevirtual 54, 3) := by decide +kernel
theorem dX6_cube_45 : decode cX6_cube 45 = .ok (.bipush 10, 2) := by decide +kernel
theorem dX6_cube_47 : decode cX6_cube 47 = .ok (.if_icmp .lt 13, 3) := by decide +kernel
theorem dX6_cube_50 : decode cX6_cube 50 = .ok (.new 47, 3) := by decide +kernel
theorem dX6_cube_53 : decode cX6_cube 53 = .ok (.dup, 1) := by decide +kernel
theorem dX6_cube_54 : decode cX6_cube 54 = .ok (.ldc 58, 2) := by decide +kernel
theorem dX6_cube_56 : decode cX6_cube 56 = .ok (.invokespecial 51, 3) := by decide +kernel
theorem dX6_cube_59 : decode cX6_cube 59 = .ok (.athrow, 1) := by decide +kernel
theorem dX6_cube_60 : decode cX6_cube 60 = .ok (.aload 4, 2) := by decide +kernel
theorem dX6_cube_62 : decode cX6_cube 62 = .ok (.iload_n 2, 1) := by decide +kernel
theorem dX6_cube_63 : decode cX6_cube 63 = .ok (.invokevirtual 60, 3) := by decide +kernel
theorem dX6_cube_66 : decode cX6_cube 66 = .ok (.aload_n 0, 1) := by decide +kernel
theorem dX6_cube_67 : decode cX6_cube 67 = .ok (.getfield 16, 3) := by decide +kernel
theorem dX6_cube_70 : decode cX6_cube 70 = .ok (.iload_n 1, 1) := by decide +kernel
theorem dX6_cube_71 : decode cX6_cube 71 = .ok (.lconst 0, 1) := by decide +kernel
theorem dX6_cube_72 : decode cX6_cube 72 = .ok (.lastore, 1) := by decide +kernel
theorem dX6_cube_73 : decode cX6_cube 73 = .ok (.aload 4, 2) := by decide +kernel
theorem dX6_cube_75 : decode cX6_cube 75 = .ok (.invokevirtual 54, 3) := by decide +kernel
theorem dX6_cube_78 : decode cX6_cube 78 = .ok (.ireturn, 1) := by decide +kernel
theorem dX6_mirror_0 : decode cX6_mirror 0 = .ok (.iload_n 1, 1) := by decide +kernel
theorem dX6_mirror_1 : decode cX6_mirror 1 = .ok (.invokestatic 36, 3) := by decide +kernel
theorem dX6_mirror_4 : decode cX6_mirror 4 = .ok (.aload_n 0, 1) := by decide +kernel
theorem dX6_mirror_5 : decode cX6_mirror 5 = .ok (.getfield 11, 3) := by decide +kernel
theorem dX6_mirror_8 : decode cX6_mirror 8 = .ok (.iload_n 1, 1) := by decide +kernel
theorem dX6_mirror_9 : decode cX6_mirror 9 = .ok (.aaload, 1) := by decide +kernel
theorem dX6_mirror_10 : decode cX6_mirror 10 = .ok (.iload_n 2, 1) := by decide +kernel
theorem dX6_mirror_11 : decode cX6_mirror 11 = .ok (.invokevirtual 63, 3) := by decide +kernel
theorem dX6_mirror_14 : decode cX6_mirror 14 = .ok (.return_, 1) := by decide +kernel
theorem dX6_shapes_0 : decode cX6_shapes 0 = .ok (.iload_n 1, 1) := by decide +kernel
theorem dX6_shapes_1 : decode cX6_shapes 1 = .ok (.invokestatic 36, 3) := by decide +kernel
theorem dX6_shapes_4 : decode cX6_shapes 4 = .ok (.aload_n 0, 1) := by decide +kernel
theorem dX6_shapes_5 : decode cX6_shapes 5 = .ok (.getfield 11, 3) := by decide +kernel
theorem dX6_shapes_8 : decode cX6_shapes 8 = .ok (.iload_n 1, 1) := by decide +kernel
theorem dX6_shapes_9 : decode cX6_shapes 9 = .ok (.aaload, 1) := by decide +kernel
theorem dX6_shapes_10 : decode cX6_shapes 10 = .ok (.invokevirtual 67, 3) := by decide +kernel
theorem dX6_shapes_13 : decode cX6_shapes 13 = .ok (.ireturn, 1) := by decide +kernel
theorem dX6_shape_0 : decode cX6_shape 0 = .ok (.iload_n 1, 1) := by decide +kernel
theorem dX6_shape_1 : decode cX6_shape 1 = .ok (.invokestatic 36, 3) := by decide +kernel
theorem dX6_shape_4 : decode cX6_shape 4 = .ok (.iload_n 2, 1) := by decide +kernel
theorem dX6_shape_5 : decode cX6_shape 5 = .ok (.ifCond .lt 16, 3) := by decide +kernel
theorem dX6_shape_8 : decode cX6_shape 8 = .ok (.iload_n 2, 1) := by decide +kernel
theorem dX6_shape_9 : decode cX6_shape 9 = .ok (.aload_n 0, 1) := by decide +kernel
theorem dX6_shape_10 : decode cX6_shape 10 = .ok (.getfield 11, 3) := by decide +kernel
theorem dX6_shape_13 : decode cX6_shape 13 = .ok (.iload_n 1, 1) := by decide +kernel
theorem dX6_shape_14 : decode cX6_shape 14 = .ok (.aaload, 1) := by decide +kernel
theorem dX6_shape_15 : decode cX6_shape 15 = .ok (.invokevirtual 67, 3) := by decide +kernel
theorem dX6_shape_18 : decode cX6_shape 18 = .ok (.if_icmp .lt 13, 3) := by decide +kernel
theorem dX6_shape_21 : decode cX6_shape 21 = .ok (.new 70, 3) := by decide +kernel
theorem dX6_shape_24 : decode cX6_shape 24 = .ok (.dup, 1) := by decide +kernel
theorem dX6_shape_25 : decode cX6_shape 25 = .ok (.ldc 72, 2) := by decide +kernel
theorem dX6_shape_27 : decode cX6_shape 27 = .ok (.invokespecial 74, 3) := by decide +kernel
theorem dX6_shape_30 : decode cX6_shape 30 = .ok (.athrow, 1) := by decide +kernel
theorem dX6_shape_31 : decode cX6_shape 31 = .ok (.aload_n 0, 1) := by decide +kernel
theorem dX6_shape_32 : decode cX6_shape 32 = .ok (.getfield 11, 3) := by decide +kernel
theorem dX6_shape_35 : decode cX6_shape 35 = .ok (.iload_n 1, 1) := by decide +kernel
theorem dX6_shape_36 : decode cX6_shape 36 = .ok (.aaload, 1) := by decide +kernel
theorem dX6_shape_37 : decode cX6_shape 37 = .ok (.iload_n 2, 1) := by decide +kernel
theorem dX6_shape_38 : decode cX6_shape 38 = .ok (.invokevirtual 75, 3) := by decide +kernel
theorem dX6_shape_41 : decode cX6_shape 41 = .ok (.lreturn, 1) := by decide +kernel
theorem dX6_target_0 : decode cX6_target 0 = .ok (.iload_n 1, 1) := by decide +kernel
theorem dX6_target_1 : decode cX6_target 1 = .ok (.invokestatic 40, 3) := by decide +kernel
theorem dX6_target_4 : decode cX6_target 4 = .ok (.iload_n 2, 1) := by decide +kernel
theorem dX6_target_5 : decode cX6_target 5 = .ok (.ifCond .lt 8, 3) := by decide +kernel
theorem dX6_target_8 : decode cX6_target 8 = .ok (.iload_n 2, 1) := by decide +kernel
theorem dX6_target_9 : decode cX6_target 9 = .ok (.iconst 2, 1) := by decide +kernel
theorem dX6_target_10 : decode cX6_target 10 = .ok (.if_icmp .le 13, 3) := by decide +kernel
theorem dX6_target_13 : decode cX6_target 13 = .ok (.new 79, 3) := by decide +kernel
theorem dX6_target_16 : decode cX6_target 16 = .ok (.dup, 1) := by decide +kernel
theorem dX6_target_17 : decode cX6_target 17 = .ok (.ldc 81, 2) := by decide +kernel
theorem dX6_target_19 : decode cX6_target 19 = .ok (.invokespecial 83, 3) := by decide +kernel
theorem dX6_target_22 : decode cX6_target 22 = .ok (.athrow, 1) := by decide +kernel
theorem dX6_target_23 : decode cX6_target 23 = .ok (.lconst 1, 1) := by decide +kernel
theorem dX6_target_24 : decode cX6_target 24 = .ok (.iload_n 1, 1) := by decide +kernel
theorem dX6_target_25 : decode cX6_target 25 = .ok (.lshl, 1) := by decide +kernel
theorem dX6_target_26 : decode cX6_target 26 = .ok (.lstore_n 3, 1) := by decide +kernel
theorem dX6_target_27 : decode cX6_target 27 = .ok (.aload_n 0, 1) := by decide +kernel
theorem dX6_target_28 : decode cX6_target 28 = .ok (.iload_n 2, 1) := by decide +kernel
theorem dX6_target_29 : decode cX6_target 29 = .ok (.iconst 1, 1) := by decide +kernel
theorem dX6_target_30 : decode cX6_target 30 = .ok (.if_icmp .ne 12, 3) := by decide +kernel
theorem dX6_target_33 : decode cX6_target 33 = .ok (.aload_n 0, 1) := by decide +kernel
theorem dX6_target_34 : decode cX6_target 34 = .ok (.getfield 84, 3) := by decide +kernel
theorem dX6_target_37 : decode cX6_target 37 = .ok (.lload_n 3, 1) := by decide +kernel
theorem dX6_target_38 : decode cX6_target 38 = .ok (.lor, 1) := by decide +kernel
theorem dX6_target_39 : decode cX6_target 39 = .ok (.goto 13, 3) := by decide +kernel
theorem dX6_target_42 : decode cX6_target 42 = .ok (.aload_n 0, 1) := by decide +kernel
theorem dX6_target_43 : decode cX6_target 43 = .ok (.getfield 84, 3) := by decide +kernel
theorem dX6_target_46 : decode cX6_target 46 = .ok (.lload_n 3, 1) := by decide +kernel
theorem dX6_target_47 : decode cX6_target 47 = .ok (.ldc2_w 88, 3) := by decide +kernel
theorem dX6_target_50 : decode cX6_target 50 = .ok (.lxor, 1) := by decide +kernel
theorem dX6_target_51 : decode cX6_target 51 = .ok (.land, 1) := by decide +kernel
theorem dX6_target_52 : decode cX6_target 52 = .ok (.putfield 84, 3) := by decide +kernel
theorem dX6_target_55 : decode cX6_target 55 = .ok (.aload_n 0, 1) := by decide +kernel
theorem dX6_target_56 : decode cX6_target 56 = .ok (.iload_n 2, 1) := by decide +kernel
theorem dX6_target_57 : decode cX6_target 57 = .ok (.iconst 2, 1) := by decide +kernel
theorem dX6_target_58 : decode cX6_target 58 = .ok (.if_icmp .ne 12, 3) := by decide +kernel
theorem dX6_target_61 : decode cX6_target 61 = .ok (.aload_n 0, 1) := by decide +kernel
theorem dX6_target_62 : decode cX6_target 62 = .ok (.getfield 90, 3) := by decide +kernel
theorem dX6_target_65 : decode cX6_target 65 = .ok (.lload_n 3, 1) := by decide +kernel
theorem dX6_target_66 : decode cX6_target 66 = .ok (.lor, 1) := by decide +kernel
theorem dX6_target_67 : decode cX6_target 67 = .ok (.goto 13, 3) := by decide +kernel
theorem dX6_target_70 : decode cX6_target 70 = .ok (.aload_n 0, 1) := by decide +kernel
theorem dX6_target_71 : decode cX6_target 71 = .ok (.getfield 90, 3) := by decide +kernel
theorem dX6_target_74 : decode cX6_target 74 = .ok (.lload_n 3, 1) := by decide +kernel
theorem dX6_target_75 : decode cX6_target 75 = .ok (.ldc2_w 88, 3) := by decide +kernel
theorem dX6_target_78 : decode cX6_target 78 = .ok (.lxor, 1) := by decide +kernel
theorem dX6_target_79 : decode cX6_target 79 = .ok (.land, 1) := by decide +kernel
theorem dX6_target_80 : decode cX6_target 80 = .ok (.putfield 90, 3) := by decide +kernel
theorem dX6_target_83 : decode cX6_target 83 = .ok (.return_, 1) := by decide +kernel
theorem dX6_places_0 : decode cX6_places 0 = .ok (.iload_n 1, 1) := by decide +kernel
theorem dX6_places_1 : decode cX6_places 1 = .ok (.invokestatic 36, 3) := by decide +kernel
theorem dX6_places_4 : decode cX6_places 4 = .ok (.aload_n 0, 1) := by decide +kernel
theorem dX6_places_5 : decode cX6_places 5 = .ok (.getfield 11, 3) := by decide +kernel
theorem dX6_places_8 : decode cX6_places 8 = .ok (.iload_n 1, 1) := by decide +kernel
theorem dX6_places_9 : decode cX6_places 9 = .ok (.aaload, 1) := by decide +kernel
theorem dX6_places_10 : decode cX6_places 10 = .ok (.aload_n 0, 1) := by decide +kernel
theorem dX6_places_11 : decode cX6_places 11 = .ok (.getfield 84, 3) := by decide +kernel
theorem dX6_places_14 : decode cX6_places 14 = .ok (.aload_n 0, 1) := by decide +kernel
theorem dX6_places_15 : decode cX6_places 15 = .ok (.getfield 90, 3) := by decide +kernel
theorem dX6_places_18 : decode cX6_places 18 = .ok (.lor, 1) := by decide +kernel
theorem dX6_places_19 : decode cX6_places 19 = .ok (.invokevirtual 93, 3) := by decide +kernel
theorem dX6_places_22 : decode cX6_places 22 = .ok (.aload_n 0, 1) := by decide +kernel
theorem dX6_places_23 : decode cX6_places 23 = .ok (.getfield 11, 3) := by decide +kernel
theorem dX6_places_26 : decode cX6_places 26 = .ok (.iload_n 1, 1) := by decide +kernel
theorem dX6_places_27 : decode cX6_places 27 = .ok (.aaload, 1) := by decide +kernel
theorem dX6_places_28 : decode cX6_places 28 = .ok (.invokevirtual 97, 3) := by decide +kernel
theorem dX6_places_31 : decode cX6_places 31 = .ok (.ireturn, 1) := by decide +kernel
theorem dX6_pack_0 : decode cX6_pack 0 = .ok (.iload_n 1, 1) := by decide +kernel
theorem dX6_pack_1 : decode cX6_pack 1 = .ok (.invokestatic 100, 3) := by decide +kernel
theorem dX6_pack_4 : decode cX6_pack 4 = .ok (.aload_n 0, 1) := by decide +kernel
theorem dX6_pack_5 : decode cX6_pack 5 = .ok (.getfield 25, 3) := by decide +kernel
theorem dX6_pack_8 : decode cX6_pack 8 = .ok (.aload_n 0, 1) := by decide +kernel
theorem dX6_pack_9 : decode cX6_pack 9 = .ok (.getfield 84, 3) := by decide +kernel
theorem dX6_pack_12 : decode cX6_pack 12 = .ok (.aload_n 0, 1) := by decide +kernel
theorem dX6_pack_13 : decode cX6_pack 13 = .ok (.getfield 90, 3) := by decide +kernel
theorem dX6_pack_16 : decode cX6_pack 16 = .ok (.iload_n 1, 1) := by decide +kernel
theorem dX6_pack_17 : decode cX6_pack 17 = .ok (.iconst (-1), 1) := by decide +kernel
theorem dX6_pack_18 : decode cX6_pack 18 = .ok (.invokevirtual 103, 3) := by decide +kernel
theorem dX6_pack_21 : decode cX6_pack 21 = .ok (.aload_n 0, 1) := by decide +kernel
theorem dX6_pack_22 : decode cX6_pack 22 = .ok (.getfield 25, 3) := by decide +kernel
theorem dX6_pack_25 : decode cX6_pack 25 = .ok (.invokevirtual 107, 3) := by decide +kernel
theorem dX6_pack_28 : decode cX6_pack 28 = .ok (.ifCond .eq 13, 3) := by decide +kernel
theorem dX6_pack_31 : decode cX6_pack 31 = .ok (.aload_n 0, 1) := by decide +kernel
theorem dX6_pack_32 : decode cX6_pack 32 = .ok (.getfield 25, 3) := by decide +kernel
theorem dX6_pack_35 : decode cX6_pack 35 = .ok (.invokevirtual 111, 3) := by decide +kernel
theorem dX6_pack_38 : decode cX6_pack 38 = .ok (.goto 12, 3) := by decide +kernel
theorem dX6_pack_41 : decode cX6_pack 41 = .ok (.iconst (-1), 1) := by decide +kernel
theorem dX6_pack_42 : decode cX6_pack 42 = .ok (.aload_n 0, 1) := by decide +kernel
theorem dX6_pack_43 : decode cX6_pack 43 = .ok (.getfield 25, 3) := by decide +kernel
theorem dX6_pack_46 : decode cX6_pack 46 = .ok (.invokevirtual 111, 3) := by decide +kernel
theorem dX6_pack_49 : decode cX6_pack 49 = .ok (.isub, 1) := by decide +kernel
theorem dX6_pack_50 : decode cX6_pack 50 = .ok (.ireturn, 1) := by decide +kernel
theorem dX6_tries_0 : decode cX6_tries 0 = .ok (.aload_n 0, 1) := by decide +kernel
theorem dX6_tries_1 : decode cX6_tries 1 = .ok (.getfield 25, 3) := by decide +kernel
theorem dX6_tries_4 : decode cX6_tries 4 = .ok (.invokevirtual 114, 3) := by decide +kernel
theorem dX6_tries_7 : decode cX6_tries 7 = .ok (.ireturn, 1) := by decide +kernel
theorem dX6_assemble_0 : decode cX6_assemble 0 = .ok (.iload_n 1, 1) := by decide +kernel
theorem dX6_assemble_1 : decode cX6_assemble 1 = .ok (.ifCond .ge 13, 3) := by decide +kernel
theorem dX6_assemble_4 : decode cX6_assemble 4 = .ok (.new 79, 3) := by decide +kernel
theorem dX6_assemble_7 : decode cX6_assemble 7 = .ok (.dup, 1) := by decide +kernel
theorem dX6_assemble_8 : decode cX6_assemble 8 = .ok (.ldc 117, 2) := by decide +kernel
theorem dX6_assemble_10 : decode cX6_assemble 10 = .ok (.invokespecial 83, 3) := by decide +kernel
theorem dX6_assemble_13 : decode cX6_assemble 13 = .ok (.athrow, 1) := by decide +kernel
theorem dX6_assemble_14 : decode cX6_assemble 14 = .ok (.iload_n 2, 1) := by decide +kernel
theorem dX6_assemble_15 : decode cX6_assemble 15 = .ok (.invokestatic 100, 3) := by decide +kernel
theorem dX6_assemble_18 : decode cX6_assemble 18 = .ok (.aload_n 0, 1) := by decide +kernel
theorem dX6_assemble_19 : decode cX6_assemble 19 = .ok (.getfield 25, 3) := by decide +kernel
theorem dX6_assemble_22 : decode cX6_assemble 22 = .ok (.aload_n 0, 1) := by decide +kernel
theorem dX6_assemble_23 : decode cX6_assemble 23 = .ok (.getfield 84, 3) := by decide +kernel
theorem dX6_assemble_26 : decode cX6_assemble 26 = .ok (.aload_n 0, 1) := by decide +kernel
theorem dX6_assemble_27 : decode cX6_assemble 27 = .ok (.getfield 90, 3) := by decide +kernel
theorem dX6_assemble_30 : decode cX6_assemble 30 = .ok (.iload_n 2, 1) := by decide +kernel
theorem dX6_assemble_31 : decode cX6_assemble 31 = .ok (.iload_n 1, 1) := by decide +kernel
theorem dX6_assemble_32 : decode cX6_assemble 32 = .ok (.invokevirtual 103, 3) := by decide +kernel
theorem dX6_assemble_35 : decode cX6_assemble 35 = .ok (.aload_n 0, 1) := by decide +kernel
theorem dX6_assemble_36 : decode cX6_assemble 36 = .ok (.getfield 25, 3) := by decide +kernel
theorem dX6_assemble_39 : decode cX6_assemble 39 = .ok (.invokevirtual 119, 3) := by decide +kernel
theorem dX6_assemble_42 : decode cX6_assemble 42 = .ok (.ifCond .ne 5, 3) := by decide +kernel
theorem dX6_assemble_45 : decode cX6_assemble 45 = .ok (.iconst 0, 1) := by decide +kernel
theorem dX6_assemble_46 : decode cX6_assemble 46 = .ok (.ireturn, 1) := by decide +kernel
theorem dX6_assemble_47 : decode cX6_assemble 47 = .ok (.iconst 0, 1) := by decide +kernel
theorem dX6_assemble_48 : decode cX6_assemble 48 = .ok (.istore_n 3, 1) := by decide +kernel
theorem dX6_assemble_49 : decode cX6_assemble 49 = .ok (.iload_n 3, 1) := by decide +kernel
theorem dX6_assemble_50 : decode cX6_assemble 50 = .ok (.bipush 6, 2) := by decide +kernel
theorem dX6_assemble_52 : decode cX6_assemble 52 = .ok (.if_icmp .ge 23, 3) := by decide +kernel
theorem dX6_assemble_55 : decode cX6_assemble 55 = .ok (.aload_n 0, 1) := by decide +kernel
theorem dX6_assemble_56 : decode cX6_assemble 56 = .ok (.getfield 16, 3) := by decide +kernel
theorem dX6_assemble_59 : decode cX6_assemble 59 = .ok (.iload_n 3, 1) := by decide +kernel
theorem dX6_assemble_60 : decode cX6_assemble 60 = .ok (.aload_n 0, 1) := by decide +kernel
theorem dX6_assemble_61 : decode cX6_assemble 61 = .ok (.getfield 25, 3) := by decide +kernel
theorem dX6_assemble_64 : decode cX6_assemble 64 = .ok (.iload_n 3, 1) := by decide +kernel
theorem dX6_assemble_65 : decode cX6_assemble 65 = .ok (.invokevirtual 122, 3) := by decide +kernel
theorem dX6_assemble_68 : decode cX6_assemble 68 = .ok (.lastore, 1) := by decide +kernel
theorem dX6_assemble_69 : decode cX6_assemble 69 = .ok (.iinc 3 1, 3) := by decide +kernel
theorem dX6_assemble_72 : decode cX6_assemble 72 = .ok (.goto (-23), 3) := by decide +kernel
theorem dX6_assemble_75 : decode cX6_assemble 75 = .ok (.iconst 1, 1) := by decide +kernel
theorem dX6_assemble_76 : decode cX6_assemble 76 = .ok (.ireturn, 1) := by decide +kernel
theorem dX6_put_0 : decode cX6_put 0 = .ok (.iload_n 1, 1) := by decide +kernel
theorem dX6_put_1 : decode cX6_put 1 = .ok (.invokestatic 36, 3) := by decide +kernel
theorem dX6_put_4 : decode cX6_put 4 = .ok (.aload_n 0, 1) := by decide +kernel
theorem dX6_put_5 : decode cX6_put 5 = .ok (.getfield 11, 3) := by decide +kernel
theorem dX6_put_8 : decode cX6_put 8 = .ok (.iload_n 1, 1) := by decide +kernel
theorem dX6_put_9 : decode cX6_put 9 = .ok (.aaload, 1) := by decide +kernel
theorem dX6_put_10 : decode cX6_put 10 = .ok (.lload_n 2, 1) := by decide +kernel
theorem dX6_put_11 : decode cX6_put 11 = .ok (.invokestatic 125, 3) := by decide +kernel
theorem dX6_put_14 : decode cX6_put 14 = .ok (.invokevirtual 131, 3) := by decide +kernel
theorem dX6_put_17 : decode cX6_put 17 = .ok (.ifCond .ne 13, 3) := by decide +kernel
theorem dX6_put_20 : decode cX6_put 20 = .ok (.new 79, 3) := by decide +kernel
theorem dX6_put_23 : decode cX6_put 23 = .ok (.dup, 1) := by decide +kernel
theorem dX6_put_24 : decode cX6_put 24 = .ok (.ldc 135, 2) := by decide +kernel
theorem dX6_put_26 : decode cX6_put 26 = .ok (.invokespecial 83, 3) := by decide +kernel
theorem dX6_put_29 : decode cX6_put 29 = .ok (.athrow, 1) := by decide +kernel
theorem dX6_put_30 : decode cX6_put 30 = .ok (.iconst 0, 1) := by decide +kernel
theorem dX6_put_31 : decode cX6_put 31 = .ok (.istore 4, 2) := by decide +kernel
theorem dX6_put_33 : decode cX6_put 33 = .ok (.iload 4, 2) := by decide +kernel
theorem dX6_put_35 : decode cX6_put 35 = .ok (.bipush 6, 2) := by decide +kernel
theorem dX6_put_37 : decode cX6_put 37 = .ok (.if_icmp .ge 39, 3) := by decide +kernel
theorem dX6_put_40 : decode cX6_put 40 = .ok (.iload 4, 2) := by decide +kernel
theorem dX6_put_42 : decode cX6_put 42 = .ok (.iload_n 1, 1) := by decide +kernel
theorem dX6_put_43 : decode cX6_put 43 = .ok (.if_icmp .eq 27, 3) := by decide +kernel
theorem dX6_put_46 : decode cX6_put 46 = .ok (.aload_n 0, 1) := by decide +kernel
theorem dX6_put_47 : decode cX6_put 47 = .ok (.getfield 16, 3) := by decide +kernel
theorem dX6_put_50 : decode cX6_put 50 = .ok (.iload 4, 2) := by decide +kernel
theorem dX6_put_52 : decode cX6_put 52 = .ok (.laload, 1) := by decide +kernel
theorem dX6_put_53 : decode cX6_put 53 = .ok (.lload_n 2, 1) := by decide +kernel
theorem dX6_put_54 : decode cX6_put 54 = .ok (.land, 1) := by decide +kernel
theorem dX6_put_55 : decode cX6_put 55 = .ok (.lconst 0, 1) := by decide +kernel
theorem dX6_put_56 : decode cX6_put 56 = .ok (.lcmp, 1) := by decide +kernel
theorem dX6_put_57 : decode cX6_put 57 = .ok (.ifCond .eq 13, 3) := by decide +kernel
theorem dX6_put_60 : decode cX6_put 60 = .ok (.new 47, 3) := by decide +kernel
theorem dX6_put_63 : decode cX6_put 63 = .ok (.dup, 1) := by decide +kernel
theorem dX6_put_64 : decode cX6_put 64 = .ok (.ldc 137, 2) := by decide +kernel
theorem dX6_put_66 : decode cX6_put 66 = .ok (.invokespecial 51, 3) := by decide +kernel
theorem dX6_put_69 : decode cX6_put 69 = .ok (.athrow, 1) := by decide +kernel
theorem dX6_put_70 : decode cX6_put 70 = .ok (.iinc 4 1, 3) := by decide +kernel
theorem dX6_put_73 : decode cX6_put 73 = .ok (.goto (-40), 3) := by decide +kernel
theorem dX6_put_76 : decode cX6_put 76 = .ok (.aload_n 0, 1) := by decide +kernel
theorem dX6_put_77 : decode cX6_put 77 = .ok (.getfield 16, 3) := by decide +kernel
theorem dX6_put_80 : decode cX6_put 80 = .ok (.iload_n 1, 1) := by decide +kernel
theorem dX6_put_81 : decode cX6_put 81 = .ok (.lload_n 2, 1) := by decide +kernel
theorem dX6_put_82 : decode cX6_put 82 = .ok (.lastore, 1) := by decide +kernel
theorem dX6_put_83 : decode cX6_put 83 = .ok (.return_, 1) := by decide +kernel
theorem dX6_take_0 : decode cX6_take 0 = .ok (.iload_n 1, 1) := by decide +kernel
theorem dX6_take_1 : decode cX6_take 1 = .ok (.invokestatic 36, 3) := by decide +kernel
theorem dX6_take_4 : decode cX6_take 4 = .ok (.aload_n 0, 1) := by decide +kernel
theorem dX6_take_5 : decode cX6_take 5 = .ok (.getfield 16, 3) := by decide +kernel
theorem dX6_take_8 : decode cX6_take 8 = .ok (.iload_n 1, 1) := by decide +kernel
theorem dX6_take_9 : decode cX6_take 9 = .ok (.laload, 1) := by decide +kernel
theorem dX6_take_10 : decode cX6_take 10 = .ok (.lconst 0, 1) := by decide +kernel
theorem dX6_take_11 : decode cX6_take 11 = .ok (.lcmp, 1) := by decide +kernel
theorem dX6_take_12 : decode cX6_take 12 = .ok (.ifCond .ne 13, 3) := by decide +kernel
theorem dX6_take_15 : decode cX6_take 15 = .ok (.new 47, 3) := by decide +kernel
theorem dX6_take_18 : decode cX6_take 18 = .ok (.dup, 1) := by decide +kernel
theorem dX6_take_19 : decode cX6_take 19 = .ok (.ldc 139, 2) := by decide +kernel
theorem dX6_take_21 : decode cX6_take 21 = .ok (.invokespecial 51, 3) := by decide +kernel
theorem dX6_take_24 : decode cX6_take 24 = .ok (.athrow, 1) := by decide +kernel
theorem dX6_take_25 : decode cX6_take 25 = .ok (.aload_n 0, 1) := by decide +kernel
theorem dX6_take_26 : decode cX6_take 26 = .ok (.getfield 16, 3) := by decide +kernel
theorem dX6_take_29 : decode cX6_take 29 = .ok (.iload_n 1, 1) := by decide +kernel
theorem dX6_take_30 : decode cX6_take 30 = .ok (.lconst 0, 1) := by decide +kernel
theorem dX6_take_31 : decode cX6_take 31 = .ok (.lastore, 1) := by decide +kernel
theorem dX6_take_32 : decode cX6_take 32 = .ok (.return_, 1) := by decide +kernel
theorem dX6_cells_0 : decode cX6_cells 0 = .ok (.iload_n 1, 1) := by decide +kernel
theorem dX6_cells_1 : decode cX6_cells 1 = .ok (.invokestatic 36, 3) := by decide +kernel
theorem dX6_cells_4 : decode cX6_cells 4 = .ok (.aload_n 0, 1) := by decide +kernel
theorem dX6_cells_5 : decode cX6_cells 5 = .ok (.getfield 16, 3) := by decide +kernel
theorem dX6_cells_8 : decode cX6_cells 8 = .ok (.iload_n 1, 1) := by decide +kernel
theorem dX6_cells_9 : decode cX6_cells 9 = .ok (.laload, 1) := by decide +kernel
theorem dX6_cells_10 : decode cX6_cells 10 = .ok (.lreturn, 1) := by decide +kernel
theorem dX6_plan_0 : decode cX6_plan 0 = .ok (.iload_n 1, 1) := by decide +kernel
theorem dX6_plan_1 : decode cX6_plan 1 = .ok (.aload_n 0, 1) := by decide +kernel
theorem dX6_plan_2 : decode cX6_plan 2 = .ok (.invokevirtual 141, 3) := by decide +kernel
theorem dX6_plan_5 : decode cX6_plan 5 = .ok (.iconst (-1), 1) := by decide +kernel
theorem dX6_plan_6 : decode cX6_plan 6 = .ok (.ixor, 1) := by decide +kernel
theorem dX6_plan_7 : decode cX6_plan 7 = .ok (.iand, 1) := by decide +kernel
theorem dX6_plan_8 : decode cX6_plan 8 = .ok (.ifCond .ne 11, 3) := by decide +kernel
theorem dX6_plan_11 : decode cX6_plan 11 = .ok (.iload_n 1, 1) := by decide +kernel
theorem dX6_plan_12 : decode cX6_plan 12 = .ok (.invokestatic 144, 3) := by decide +kernel
theorem dX6_plan_15 : decode cX6_plan 15 = .ok (.iconst 2, 1) := by decide +kernel
theorem dX6_plan_16 : decode cX6_plan 16 = .ok (.if_icmp .ge 13, 3) := by decide +kernel
theorem dX6_plan_19 : decode cX6_plan 19 = .ok (.new 79, 3) := by decide +kernel
theorem dX6_plan_22 : decode cX6_plan 22 = .ok (.dup, 1) := by decide +kernel
theorem dX6_plan_23 : decode cX6_plan 23 = .ok (.ldc 150, 2) := by decide +kernel
theorem dX6_plan_25 : decode cX6_plan 25 = .ok (.invokespecial 83, 3) := by decide +kernel
theorem dX6_plan_28 : decode cX6_plan 28 = .ok (.athrow, 1) := by decide +kernel
theorem dX6_plan_29 : decode cX6_plan 29 = .ok (.iload_n 2, 1) := by decide +kernel
theorem dX6_plan_30 : decode cX6_plan 30 = .ok (.iconst 1, 1) := by decide +kernel
theorem dX6_plan_31 : decode cX6_plan 31 = .ok (.if_icmp .lt 10, 3) := by decide +kernel
theorem dX6_plan_34 : decode cX6_plan 34 = .ok (.iload_n 2, 1) := by decide +kernel
theorem dX6_plan_35 : decode cX6_plan 35 = .ok (.sipush 300, 3) := by decide +kernel
theorem dX6_plan_38 : decode cX6_plan 38 = .ok (.if_icmp .le 13, 3) := by decide +kernel
theorem dX6_plan_41 : decode cX6_plan 41 = .ok (.new 79, 3) := by decide +kernel
theorem dX6_plan_44 : decode cX6_plan 44 = .ok (.dup, 1) := by decide +kernel
theorem dX6_plan_45 : decode cX6_plan 45 = .ok (.ldc 152, 2) := by decide +kernel
theorem dX6_plan_47 : decode cX6_plan 47 = .ok (.invokespecial 83, 3) := by decide +kernel
theorem dX6_plan_50 : decode cX6_plan 50 = .ok (.athrow, 1) := by decide +kernel
theorem dX6_plan_51 : decode cX6_plan 51 = .ok (.aload_n 0, 1) := by decide +kernel
theorem dX6_plan_52 : decode cX6_plan 52 = .ok (.getfield 32, 3) := by decide +kernel
theorem dX6_plan_55 : decode cX6_plan 55 = .ok (.aload_n 0, 1) := by decide +kernel
theorem dX6_plan_56 : decode cX6_plan 56 = .ok (.getfield 16, 3) := by decide +kernel
theorem dX6_plan_59 : decode cX6_plan 59 = .ok (.iload_n 1, 1) := by decide +kernel
theorem dX6_plan_60 : decode cX6_plan 60 = .ok (.iload_n 2, 1) := by decide +kernel
theorem dX6_plan_61 : decode cX6_plan 61 = .ok (.invokevirtual 154, 3) := by decide +kernel
theorem dX6_plan_64 : decode cX6_plan 64 = .ok (.ireturn, 1) := by decide +kernel
theorem dX6_states_0 : decode cX6_states 0 = .ok (.aload_n 0, 1) := by decide +kernel
theorem dX6_states_1 : decode cX6_states 1 = .ok (.getfield 32, 3) := by decide +kernel
theorem dX6_states_4 : decode cX6_states 4 = .ok (.invokevirtual 158, 3) := by decide +kernel
theorem dX6_states_7 : decode cX6_states 7 = .ok (.ireturn, 1) := by decide +kernel
theorem dX6_move_0 : decode cX6_move 0 = .ok (.iload_n 1, 1) := by decide +kernel
theorem dX6_move_1 : decode cX6_move 1 = .ok (.ifCond .lt 14, 3) := by decide +kernel
theorem dX6_move_4 : decode cX6_move 4 = .ok (.iload_n 1, 1) := by decide +kernel
theorem dX6_move_5 : decode cX6_move 5 = .ok (.aload_n 0, 1) := by decide +kernel
theorem dX6_move_6 : decode cX6_move 6 = .ok (.getfield 32, 3) := by decide +kernel
theorem dX6_move_9 : decode cX6_move 9 = .ok (.invokevirtual 161, 3) := by decide +kernel
theorem dX6_move_12 : decode cX6_move 12 = .ok (.if_icmp .lt 13, 3) := by decide +kernel
theorem dX6_move_15 : decode cX6_move 15 = .ok (.new 70, 3) := by decide +kernel
theorem dX6_move_18 : decode cX6_move 18 = .ok (.dup, 1) := by decide +kernel
theorem dX6_move_19 : decode cX6_move 19 = .ok (.ldc 164, 2) := by decide +kernel
theorem dX6_move_21 : decode cX6_move 21 = .ok (.invokespecial 74, 3) := by decide +kernel
theorem dX6_move_24 : decode cX6_move 24 = .ok (.athrow, 1) := by decide +kernel
theorem dX6_move_25 : decode cX6_move 25 = .ok (.aload_n 0, 1) := by decide +kernel
theorem dX6_move_26 : decode cX6_move 26 = .ok (.getfield 32, 3) := by decide +kernel
theorem dX6_move_29 : decode cX6_move 29 = .ok (.iload_n 1, 1) := by decide +kernel
theorem dX6_move_30 : decode cX6_move 30 = .ok (.invokevirtual 166, 3) := by decide +kernel
theorem dX6_move_33 : decode cX6_move 33 = .ok (.ireturn, 1) := by decide +kernel
theorem dX6_assembledPieces_0 : decode cX6_assembledPieces 0 = .ok (.iconst 0, 1) := by decide +kernel
theorem dX6_assembledPieces_1 : decode cX6_assembledPieces 1 = .ok (.istore_n 1, 1) := by decide +kernel
theorem dX6_assembledPieces_2 : decode cX6_assembledPieces 2 = .ok (.iconst 0, 1) := by decide +kernel
theorem dX6_assembledPieces_3 : decode cX6_assembledPieces 3 = .ok (.istore_n 2, 1) := by decide +kernel
theorem dX6_assembledPieces_4 : decode cX6_assembledPieces 4 = .ok (.iload_n 2, 1) := by decide +kernel
theorem dX6_assembledPieces_5 : decode cX6_assembledPieces 5 = .ok (.bipush 6, 2) := by decide +kernel
theorem dX6_assembledPieces_7 : decode cX6_assembledPieces 7 = .ok (.if_icmp .ge 26, 3) := by decide +kernel
theorem dX6_assembledPieces_10 : decode cX6_assembledPieces 10 = .ok (.aload_n 0, 1) := by decide +kernel
theorem dX6_assembledPieces_11 : decode cX6_assembledPieces 11 = .ok (.getfield 16, 3) := by decide +kernel
theorem dX6_assembledPieces_14 : decode cX6_assembledPieces 14 = .ok (.iload_n 2, 1) := by decide +kernel
theorem dX6_assembledPieces_15 : decode cX6_assembledPieces 15 = .ok (.laload, 1) := by decide +kernel
theorem dX6_assembledPieces_16 : decode cX6_assembledPieces 16 = .ok (.lconst 0, 1) := by decide +kernel
theorem dX6_assembledPieces_17 : decode cX6_assembledPieces 17 = .ok (.lcmp, 1) := by decide +kernel
theorem dX6_assembledPieces_18 : decode cX6_assembledPieces 18 = .ok (.ifCond .eq 9, 3) := by decide +kernel
theorem dX6_assembledPieces_21 : decode cX6_assembledPieces 21 = .ok (.iload_n 1, 1) := by decide +kernel
theorem dX6_assembledPieces_22 : decode cX6_assembledPieces 22 = .ok (.iconst 1, 1) := by decide +kernel
theorem dX6_assembledPieces_23 : decode cX6_assembledPieces 23 = .ok (.iload_n 2, 1) := by decide +kernel
theorem dX6_assembledPieces_24 : decode cX6_assembledPieces 24 = .ok (.ishl, 1) := by decide +kernel
theorem dX6_assembledPieces_25 : decode cX6_assembledPieces 25 = .ok (.ior, 1) := by decide +kernel
theorem dX6_assembledPieces_26 : decode cX6_assembledPieces 26 = .ok (.istore_n 1, 1) := by decide +kernel
theorem dX6_assembledPieces_27 : decode cX6_assembledPieces 27 = .ok (.iinc 2 1, 3) := by decide +kernel
theorem dX6_assembledPieces_30 : decode cX6_assembledPieces 30 = .ok (.goto (-26), 3) := by decide +kernel
theorem dX6_assembledPieces_33 : decode cX6_assembledPieces 33 = .ok (.iload_n 1, 1) := by decide +kernel
theorem dX6_assembledPieces_34 : decode cX6_assembledPieces 34 = .ok (.ireturn, 1) := by decide +kernel
theorem dX6_checkPiece_0 : decode cX6_checkPiece 0 = .ok (.iload_n 0, 1) := by decide +kernel
theorem dX6_checkPiece_1 : decode cX6_checkPiece 1 = .ok (.ifCond .lt 9, 3) := by decide +kernel
theorem dX6_checkPiece_4 : decode cX6_checkPiece 4 = .ok (.iload_n 0, 1) := by decide +kernel
theorem dX6_checkPiece_5 : decode cX6_checkPiece 5 = .ok (.bipush 6, 2) := by decide +kernel
theorem dX6_checkPiece_7 : decode cX6_checkPiece 7 = .ok (.if_icmp .lt 13, 3) := by decide +kernel
theorem dX6_checkPiece_10 : decode cX6_checkPiece 10 = .ok (.new 79, 3) := by decide +kernel
theorem dX6_checkPiece_13 : decode cX6_checkPiece 13 = .ok (.dup, 1) := by decide +kernel
theorem dX6_checkPiece_14 : decode cX6_checkPiece 14 = .ok (.ldc 169, 2) := by decide +kernel
theorem dX6_checkPiece_16 : decode cX6_checkPiece 16 = .ok (.invokespecial 83, 3) := by decide +kernel
theorem dX6_checkPiece_19 : decode cX6_checkPiece 19 = .ok (.athrow, 1) := by decide +kernel
theorem dX6_checkPiece_20 : decode cX6_checkPiece 20 = .ok (.return_, 1) := by decide +kernel
theorem dX6_checkCell_0 : decode cX6_checkCell 0 = .ok (.iload_n 0, 1) := by decide +kernel
theorem dX6_checkCell_1 : decode cX6_checkCell 1 = .ok (.ifCond .lt 9, 3) := by decide +kernel
theorem dX6_checkCell_4 : decode cX6_checkCell 4 = .ok (.iload_n 0, 1) := by decide +kernel
theorem dX6_checkCell_5 : decode cX6_checkCell 5 = .ok (.bipush 64, 2) := by decide +kernel
theorem dX6_checkCell_7 : decode cX6_checkCell 7 = .ok (.if_icmp .lt 13, 3) := by decide +kernel
theorem dX6_checkCell_10 : decode cX6_checkCell 10 = .ok (.new 79, 3) := by decide +kernel
theorem dX6_checkCell_13 : decode cX6_checkCell 13 = .ok (.dup, 1) := by decide +kernel
theorem dX6_checkCell_14 : decode cX6_checkCell 14 = .ok (.ldc 171, 2) := by decide +kernel
theorem dX6_checkCell_16 : decode cX6_checkCell 16 = .ok (.invokespecial 83, 3) := by decide +kernel
theorem dX6_checkCell_19 : decode cX6_checkCell 19 = .ok (.athrow, 1) := by decide +kernel
theorem dX6_checkCell_20 : decode cX6_checkCell 20 = .ok (.return_, 1) := by decide +kernel
theorem dX6_checkBudget_0 : decode cX6_checkBudget 0 = .ok (.iload_n 0, 1) := by decide +kernel
theorem dX6_checkBudget_1 : decode cX6_checkBudget 1 = .ok (.iconst 1, 1) := by decide +kernel
theorem dX6_checkBudget_2 : decode cX6_checkBudget 2 = .ok (.if_icmp .lt 9, 3) := by decide +kernel
theorem dX6_checkBudget_5 : decode cX6_checkBudget 5 = .ok (.iload_n 0, 1) := by decide +kernel
theorem dX6_checkBudget_6 : decode cX6_checkBudget 6 = .ok (.ldc 173, 2) := by decide +kernel
theorem dX6_checkBudget_8 : decode cX6_checkBudget 8 = .ok (.if_icmp .le 13, 3) := by decide +kernel
theorem dX6_checkBudget_11 : decode cX6_checkBudget 11 = .ok (.new 79, 3) := by decide +kernel
theorem dX6_checkBudget_14 : decode cX6_checkBudget 14 = .ok (.dup, 1) := by decide +kernel
theorem dX6_checkBudget_15 : decode cX6_checkBudget 15 = .ok (.ldc 174, 2) := by decide +kernel
theorem dX6_checkBudget_17 : decode cX6_checkBudget 17 = .ok (.invokespecial 83, 3) := by decide +kernel
theorem dX6_checkBudget_20 : decode cX6_checkBudget 20 = .ok (.athrow, 1) := by decide +kernel
theorem dX6_checkBudget_21 : decode cX6_checkBudget 21 = .ok (.return_, 1) := by decide +kernel
theorem dX6_lowestPiece_0 : decode cX6_lowestPiece 0 = .ok (.iload_n 0, 1) := by decide +kernel
theorem dX6_lowestPiece_1 : decode cX6_lowestPiece 1 = .ok (.iload_n 0, 1) := by decide +kernel
theorem dX6_lowestPiece_2 : decode cX6_lowestPiece 2 = .ok (.ineg, 1) := by decide +kernel
theorem dX6_lowestPiece_3 : decode cX6_lowestPiece 3 = .ok (.iand, 1) := by decide +kernel
theorem dX6_lowestPiece_4 : decode cX6_lowestPiece 4 = .ok (.iconst 1, 1) := by decide +kernel
theorem dX6_lowestPiece_5 : decode cX6_lowestPiece 5 = .ok (.isub, 1) := by decide +kernel
theorem dX6_lowestPiece_6 : decode cX6_lowestPiece 6 = .ok (.invokestatic 144, 3) := by decide +kernel
theorem dX6_lowestPiece_9 : decode cX6_lowestPiece 9 = .ok (.ireturn, 1) := by decide +kernel
theorem dX7_init_0 : decode cX7_init 0 = .ok (.aload_n 0, 1) := by decide +kernel
theorem dX7_init_1 : decode cX7_init 1 = .ok (.invokespecial 1, 3) := by decide +kernel
theorem dX7_init_4 : decode cX7_init 4 = .ok (.aload_n 0, 1) := by decide +kernel
theorem dX7_init_5 : decode cX7_init 5 = .ok (.bipush 6, 2) := by decide +kernel
theorem dX7_init_7 : decode cX7_init 7 = .ok (.newarray .long, 2) := by decide +kernel
theorem dX7_init_9 : decode cX7_init 9 = .ok (.putfield 7, 3) := by decide +kernel
theorem dX7_init_12 : decode cX7_init 12 = .ok (.aload_n 0, 1) := by decide +kernel
theorem dX7_init_13 : decode cX7_init 13 = .ok (.bipush 6, 2) := by decide +kernel
theorem dX7_init_15 : decode cX7_init 15 = .ok (.newarray .boolean, 2) := by decide +kernel
theorem dX7_init_17 : decode cX7_init 17 = .ok (.putfield 13, 3) := by decide +kernel
theorem dX7_init_20 : decode cX7_init 20 = .ok (.aload_n 0, 1) := by decide +kernel
theorem dX7_init_21 : decode cX7_init 21 = .ok (.bipush 64, 2) := by decide +kernel
theorem dX7_init_23 : decode cX7_init 23 = .ok (.newarray .int, 2) := by decide +kernel
theorem dX7_init_25 : decode cX7_init 25 = .ok (.putfield 17, 3) := by decide +kernel
theorem dX7_init_28 : decode cX7_init 28 = .ok (.aload_n 0, 1) := by decide +kernel
theorem dX7_init_29 : decode cX7_init 29 = .ok (.bipush 6, 2) := by decide +kernel
theorem dX7_init_31 : decode cX7_init 31 = .ok (.newarray .int, 2) := by decide +kernel
theorem dX7_init_33 : decode cX7_init 33 = .ok (.putfield 21, 3) := by decide +kernel
theorem dX7_init_36 : decode cX7_init 36 = .ok (.aload_n 0, 1) := by decide +kernel
theorem dX7_init_37 : decode cX7_init 37 = .ok (.sipush 288, 3) := by decide +kernel
theorem dX7_init_40 : decode cX7_init 40 = .ok (.newarray .long, 2) := by decide +kernel
theorem dX7_init_42 : decode cX7_init 42 = .ok (.putfield 24, 3) := by decide +kernel
theorem dX7_init_45 : decode cX7_init 45 = .ok (.aload_n 0, 1) := by decide +kernel
theorem dX7_init_46 : decode cX7_init 46 = .ok (.bipush 6, 2) := by decide +kernel
theorem dX7_init_48 : decode cX7_init 48 = .ok (.newarray .int, 2) := by decide +kernel
theorem dX7_init_50 : decode cX7_init 50 = .ok (.putfield 27, 3) := by decide +kernel
theorem dX7_init_53 : decode cX7_init 53 = .ok (.aload_n 0, 1) := by decide +kernel
theorem dX7_init_54 : decode cX7_init 54 = .ok (.sipush 8400, 3) := by decide +kernel
theorem dX7_init_57 : decode cX7_init 57 = .ok (.newarray .long, 2) := by decide +kernel
theorem dX7_init_59 : decode cX7_init 59 = .ok (.putfield 30, 3) := by decide +kernel
theorem dX7_init_62 : decode cX7_init 62 = .ok (.aload_n 0, 1) := by decide +kernel
theorem dX7_init_63 : decode cX7_init 63 = .ok (.bipush 6, 2) := by decide +kernel
theorem dX7_init_65 : decode cX7_init 65 = .ok (.newarray .long, 2) := by decide +kernel
theorem dX7_init_67 : decode cX7_init 67 = .ok (.putfield 33, 3) := by decide +kernel
theorem dX7_init_70 : decode cX7_init 70 = .ok (.aload_n 0, 1) := by decide +kernel
theorem dX7_init_71 : decode cX7_init 71 = .ok (.bipush 7, 2) := by decide +kernel
theorem dX7_init_73 : decode cX7_init 73 = .ok (.newarray .long, 2) := by decide +kernel
theorem dX7_init_75 : decode cX7_init 75 = .ok (.putfield 36, 3) := by decide +kernel
theorem dX7_init_78 : decode cX7_init 78 = .ok (.aload_n 0, 1) := by decide +kernel
theorem dX7_init_79 : decode cX7_init 79 = .ok (.bipush 7, 2) := by decide +kernel
theorem dX7_init_81 : decode cX7_init 81 = .ok (.newarray .int, 2) := by decide +kernel
theorem dX7_init_83 : decode cX7_init 83 = .ok (.putfield 39, 3) := by decide +kernel
theorem dX7_init_86 : decode cX7_init 86 = .ok (.aload_n 0, 1) := by decide +kernel
theorem dX7_init_87 : decode cX7_init 87 = .ok (.bipush 7, 2) := by decide +kernel
theorem dX7_init_89 : decode cX7_init 89 = .ok (.newarray .int, 2) := by decide +kernel
theorem dX7_init_91 : decode cX7_init 91 = .ok (.putfield 42, 3) := by decide +kernel
theorem dX7_init_94 : decode cX7_init 94 = .ok (.aload_n 0, 1) := by decide +kernel
theorem dX7_init_95 : decode cX7_init 95 = .ok (.bipush 7, 2) := by decide +kernel
theorem dX7_init_97 : decode cX7_init 97 = .ok (.newarray .int, 2) := by decide +kernel
theorem dX7_init_99 : decode cX7_init 99 = .ok (.putfield 45, 3) := by decide +kernel
theorem dX7_init_102 : decode cX7_init 102 = .ok (.aload_n 0, 1) := by decide +kernel
theorem dX7_init_103 : decode cX7_init 103 = .ok (.bipush 7, 2) := by decide +kernel
theorem dX7_init_105 : decode cX7_init 105 = .ok (.newarray .int, 2) := by decide +kernel
theorem dX7_init_107 : decode cX7_init 107 = .ok (.putfield 48, 3) := by decide +kernel
theorem dX7_init_110 : decode cX7_init 110 = .ok (.aload_n 0, 1) := by decide +kernel
theorem dX7_init_111 : decode cX7_init 111 = .ok (.bipush 7, 2) := by decide +kernel
theorem dX7_init_113 : decode cX7_init 113 = .ok (.newarray .long, 2) := by decide +kernel
theorem dX7_init_115 : decode cX7_init 115 = .ok (.putfield 51, 3) := by decide +kernel
theorem dX7_init_118 : decode cX7_init 118 = .ok (.aload_n 0, 1) := by decide +kernel
theorem dX7_init_119 : decode cX7_init 119 = .ok (.bipush 6, 2) := by decide +kernel
theorem dX7_init_121 : decode cX7_init 121 = .ok (.newarray .int, 2) := by decide +kernel
theorem dX7_init_123 : decode cX7_init 123 = .ok (.putfield 54, 3) := by decide +kernel
theorem dX7_init_126 : decode cX7_init 126 = .ok (.aload_n 0, 1) := by decide +kernel
theorem dX7_init_127 : decode cX7_init 127 = .ok (.sipush 180, 3) := by decide +kernel
theorem dX7_init_130 : decode cX7_init 130 = .ok (.newarray .int, 2) := by decide +kernel
theorem dX7_init_132 : decode cX7_init 132 = .ok (.putfield 57, 3) := by decide +kernel
theorem dX7_init_135 : decode cX7_init 135 = .ok (.aload_n 0, 1) := by decide +kernel
theorem dX7_init_136 : decode cX7_init 136 = .ok (.sipush 5400, 3) := by decide +kernel
theorem dX7_init_139 : decode cX7_init 139 = .ok (.newarray .int, 2) := by decide +kernel
theorem dX7_init_141 : decode cX7_init 141 = .ok (.putfield 60, 3) := by decide +kernel
theorem dX7_init_144 : decode cX7_init 144 = .ok (.aload_n 0, 1) := by decide +kernel
theorem dX7_init_145 : decode cX7_init 145 = .ok (.sipush 300, 3) := by decide +kernel
theorem dX7_init_148 : decode cX7_init 148 = .ok (.newarray .int, 2) := by decide +kernel
theorem dX7_init_150 : decode cX7_init 150 = .ok (.putfield 63, 3) := by decide +kernel
theorem dX7_init_153 : decode cX7_init 153 = .ok (.aload_n 0, 1) := by decide +kernel
theorem dX7_init_154 : decode cX7_init 154 = .ok (.sipush 300, 3) := by decide +kernel
theorem dX7_init_157 : decode cX7_init 157 = .ok (.newarray .int, 2) := by decide +kernel
theorem dX7_init_159 : decode cX7_init 159 = .ok (.putfield 66, 3) := by decide +kernel
theorem dX7_init_162 : decode cX7_init 162 = .ok (.aload_n 0, 1) := by decide +kernel
theorem dX7_init_163 : decode cX7_init 163 = .ok (.bipush 18, 2) := by decide +kernel
theorem dX7_init_165 : decode cX7_init 165 = .ok (.newarray .int, 2) := by decide +kernel
theorem dX7_init_167 : decode cX7_init 167 = .ok (.putfield 69, 3) := by decide +kernel
theorem dX7_init_170 : decode cX7_init 170 = .ok (.aload_n 0, 1) := by decide +kernel
theorem dX7_init_171 : decode cX7_init 171 = .ok (.bipush 18, 2) := by decide +kernel
theorem dX7_init_173 : decode cX7_init 173 = .ok (.newarray .int, 2) := by decide +kernel
theorem dX7_init_175 : decode cX7_init 175 = .ok (.putfield 72, 3) := by decide +kernel
theorem dX7_init_178 : decode cX7_init 178 = .ok (.aload_n 0, 1) := by decide +kernel
theorem dX7_init_179 : decode cX7_init 179 = .ok (.sipush 301, 3) := by decide +kernel
theorem dX7_init_182 : decode cX7_init 182 = .ok (.newarray .int, 2) := by decide +kernel
theorem dX7_init_184 : decode cX7_init 184 = .ok (.putfield 75, 3) := by decide +kernel
theorem dX7_init_187 : decode cX7_init 187 = .ok (.return_, 1) := by decide +kernel
theorem dX7_thrown_0 : decode cX7_thrown 0 = .ok (.aload_n 0, 1) := by decide +kernel
theorem dX7_thrown_1 : decode cX7_thrown 1 = .ok (.getfield 78, 3) := by decide +kernel
theorem dX7_thrown_4 : decode cX7_thrown 4 = .ok (.ireturn, 1) := by decide +kernel
theorem dX7_in_0 : decode cX7_in 0 = .ok (.iload_n 0, 1) := by decide +kernel
theorem dX7_in_1 : decode cX7_in 1 = .ok (.iload_n 1, 1) := by decide +kernel
theorem dX7_in_2 : decode cX7_in 2 = .ok (.if_icmp .lt 12, 3) := by decide +kernel
theorem dX7_in_5 : decode cX7_in 5 = .ok (.iload_n 0, 1) := by decide +kernel
theorem dX7_in_6 : decode cX7_in 6 = .ok (.iload_n 2, 1) := by decide +kernel
theorem dX7_in_7 : decode cX7_in 7 = .ok (.if_icmp .gt 7, 3) := by decide +kernel
theorem dX7_in_10 : decode cX7_in 10 = .ok (.iconst 1, 1) := by decide +kernel
theorem dX7_in_11 : decode cX7_in 11 = .ok (.goto 4, 3) := by decide +kernel
theorem dX7_in_14 : decode cX7_in 14 = .ok (.iconst 0, 1) := by decide +kernel
theorem dX7_in_15 : decode cX7_in 15 = .ok (.ireturn, 1) := by decide +kernel
theorem dX7_says_0 : decode cX7_says 0 = .ok (.aload_n 0, 1) := by decide +kernel
theorem dX7_says_1 : decode cX7_says 1 = .ok (.iload_n 1, 1) := by decide +kernel
theorem dX7_says_2 : decode cX7_says 2 = .ok (.ifCond .eq 7, 3) := by decide +kernel
theorem dX7_says_5 : decode cX7_says 5 = .ok (.iconst 0, 1) := by decide +kernel
theorem dX7_says_6 : decode cX7_says 6 = .ok (.goto 4, 3) := by decide +kernel
theorem dX7_says_9 : decode cX7_says 9 = .ok (.iconst 1, 1) := by decide +kernel
theorem dX7_says_10 : decode cX7_says 10 = .ok (.putfield 78, 3) := by decide +kernel
theorem dX7_says_13 : decode cX7_says 13 = .ok (.iload_n 1, 1) := by decide +kernel
theorem dX7_says_14 : decode cX7_says 14 = .ok (.ireturn, 1) := by decide +kernel
theorem dX7_has_0 : decode cX7_has 0 = .ok (.lload_n 0, 1) := by decide +kernel
theorem dX7_has_1 : decode cX7_has 1 = .ok (.iload_n 2, 1) := by decide +kernel
theorem dX7_has_2 : decode cX7_has 2 = .ok (.lushr, 1) := by decide +kernel
theorem dX7_has_3 : decode cX7_has 3 = .ok (.lconst 1, 1) := by decide +kernel
theorem dX7_has_4 : decode cX7_has 4 = .ok (.land, 1) := by decide +kernel
theorem dX7_has_5 : decode cX7_has 5 = .ok (.lconst 1, 1) := by decide +kernel
theorem dX7_has_6 : decode cX7_has 6 = .ok (.lcmp, 1) := by decide +kernel
theorem dX7_has_7 : decode cX7_has 7 = .ok (.ifCond .ne 7, 3) := by decide +kernel
theorem dX7_has_10 : decode cX7_has 10 = .ok (.iconst 1, 1) := by decide +kernel
theorem dX7_has_11 : decode cX7_has 11 = .ok (.goto 4, 3) := by decide +kernel
theorem dX7_has_14 : decode cX7_has 14 = .ok (.iconst 0, 1) := by decide +kernel
theorem dX7_has_15 : decode cX7_has 15 = .ok (.ireturn, 1) := by decide +kernel
theorem dX7_count_0 : decode cX7_count 0 = .ok (.iconst 0, 1) := by decide +kernel
theorem dX7_count_1 : decode cX7_count 1 = .ok (.istore_n 2, 1) := by decide +kernel
theorem dX7_count_2 : decode cX7_count 2 = .ok (.iconst 0, 1) := by decide +kernel
theorem dX7_count_3 : decode cX7_count 3 = .ok (.istore_n 3, 1) := by decide +kernel
theorem dX7_count_4 : decode cX7_count 4 = .ok (.iload_n 3, 1) := by decide +kernel
theorem dX7_count_5 : decode cX7_count 5 = .ok (.bipush 64, 2) := by decide +kernel
theorem dX7_count_7 : decode cX7_count 7 = .ok (.if_icmp .ge 25, 3) := by decide +kernel
theorem dX7_count_10 : decode cX7_count 10 = .ok (.lload_n 0, 1) := by decide +kernel
theorem dX7_count_11 : decode cX7_count 11 = .ok (.iload_n 3, 1) := by decide +kernel
theorem dX7_count_12 : decode cX7_count 12 = .ok (.invokestatic 82, 3) := by decide +kernel
theorem dX7_count_15 : decode cX7_count 15 = .ok (.ifCond .eq 9, 3) := by decide +kernel
theorem dX7_count_18 : decode cX7_count 18 = .ok (.iload_n 2, 1) := by decide +kernel
theorem dX7_count_19 : decode cX7_count 19 = .ok (.iconst 1, 1) := by decide +kernel
theorem dX7_count_20 : decode cX7_count 20 = .ok (.iadd, 1) := by decide +kernel
theorem dX7_count_21 : decode cX7_count 21 = .ok (.goto 4, 3) := by decide +kernel
theorem dX7_count_24 : decode cX7_count 24 = .ok (.iload_n 2, 1) := by decide +kernel
theorem dX7_count_25 : decode cX7_count 25 = .ok (.istore_n 2, 1) := by decide +kernel
theorem dX7_count_26 : decode cX7_count 26 = .ok (.iinc 3 1, 3) := by decide +kernel
theorem dX7_count_29 : decode cX7_count 29 = .ok (.goto (-25), 3) := by decide +kernel
theorem dX7_count_32 : decode cX7_count 32 = .ok (.iload_n 2, 1) := by decide +kernel
theorem dX7_count_33 : decode cX7_count 33 = .ok (.ireturn, 1) := by decide +kernel
theorem dX7_isLess_0 : decode cX7_isLess 0 = .ok (.lload_n 0, 1) := by decide +kernel
theorem dX7_isLess_1 : decode cX7_isLess 1 = .ok (.ldc2_w 86, 3) := by decide +kernel
theorem dX7_isLess_4 : decode cX7_isLess 4 = .ok (.lxor, 1) := by decide +kernel
theorem dX7_isLess_5 : decode cX7_isLess 5 = .ok (.lload_n 2, 1) := by decide +kernel
theorem dX7_isLess_6 : decode cX7_isLess 6 = .ok (.ldc2_w 86, 3) := by decide +kernel
theorem dX7_isLess_9 : decode cX7_isLess 9 = .ok (.lxor, 1) := by decide +kernel
theorem dX7_isLess_10 : decode cX7_isLess 10 = .ok (.lcmp, 1) := by decide +kernel
theorem dX7_isLess_11 : decode cX7_isLess 11 = .ok (.ifCond .ge 7, 3) := by decide +kernel
theorem dX7_isLess_14 : decode cX7_isLess 14 = .ok (.iconst 1, 1) := by decide +kernel
theorem dX7_isLess_15 : decode cX7_isLess 15 = .ok (.goto 4, 3) := by decide +kernel
theorem dX7_isLess_18 : decode cX7_isLess 18 = .ok (.iconst 0, 1) := by decide +kernel
theorem dX7_isLess_19 : decode cX7_isLess 19 = .ok (.ireturn, 1) := by decide +kernel
theorem dX7_cube_0 : decode cX7_cube 0 = .ok (.iload_n 1, 1) := by decide +kernel
theorem dX7_cube_1 : decode cX7_cube 1 = .ok (.iconst 0, 1) := by decide +kernel
theorem dX7_cube_2 : decode cX7_cube 2 = .ok (.iconst 5, 1) := by decide +kernel
theorem dX7_cube_3 : decode cX7_cube 3 = .ok (.invokestatic 88, 3) := by decide +kernel
theorem dX7_cube_6 : decode cX7_cube 6 = .ok (.ifCond .eq 17, 3) := by decide +kernel
theorem dX7_cube_9 : decode cX7_cube 9 = .ok (.iload_n 2, 1) := by decide +kernel
theorem dX7_cube_10 : decode cX7_cube 10 = .ok (.iconst 0, 1) := by decide +kernel
theorem dX7_cube_11 : decode cX7_cube 11 = .ok (.bipush 63, 2) := by decide +kernel
theorem dX7_cube_13 : decode cX7_cube 13 = .ok (.invokestatic 88, 3) := by decide +kernel
theorem dX7_cube_16 : decode cX7_cube 16 = .ok (.ifCond .eq 7, 3) := by decide +kernel
theorem dX7_cube_19 : decode cX7_cube 19 = .ok (.iconst 1, 1) := by decide +kernel
theorem dX7_cube_20 : decode cX7_cube 20 = .ok (.goto 4, 3) := by decide +kernel
theorem dX7_cube_23 : decode cX7_cube 23 = .ok (.iconst 0, 1) := by decide +kernel
theorem dX7_cube_24 : decode cX7_cube 24 = .ok (.istore 4, 2) := by decide +kernel
theorem dX7_cube_26 : decode cX7_cube 26 = .ok (.aload_n 0, 1) := by decide +kernel
theorem dX7_cube_27 : decode cX7_cube 27 = .ok (.iload 4, 2) := by decide +kernel
theorem dX7_cube_29 : decode cX7_cube 29 = .ok (.ifCond .ne 7, 3) := by decide +kernel
theorem dX7_cube_32 : decode cX7_cube 32 = .ok (.iconst 1, 1) := by decide +kernel
theorem dX7_cube_33 : decode cX7_cube 33 = .ok (.goto 40, 3) := by decide +kernel
theorem dX7_cube_36 : decode cX7_cube 36 = .ok (.aload_n 0, 1) := by decide +kernel
theorem dX7_cube_37 : decode cX7_cube 37 = .ok (.getfield 7, 3) := by decide +kernel
theorem dX7_cube_40 : decode cX7_cube 40 = .ok (.iload_n 1, 1) := by decide +kernel
theorem dX7_cube_41 : decode cX7_cube 41 = .ok (.laload, 1) := by decide +kernel
theorem dX7_cube_42 : decode cX7_cube 42 = .ok (.iload_n 2, 1) := by decide +kernel
theorem dX7_cube_43 : decode cX7_cube 43 = .ok (.invokestatic 82, 3) := by decide +kernel
theorem dX7_cube_46 : decode cX7_cube 46 = .ok (.iload_n 3, 1) := by decide +kernel
theorem dX7_cube_47 : decode cX7_cube 47 = .ok (.if_icmp .eq 21, 3) := by decide +kernel
theorem dX7_cube_50 : decode cX7_cube 50 = .ok (.iload_n 3, 1) := by decide +kernel
theorem dX7_cube_51 : decode cX7_cube 51 = .ok (.ifCond .eq 21, 3) := by decide +kernel
theorem dX7_cube_54 : decode cX7_cube 54 = .ok (.aload_n 0, 1) := by decide +kernel
theorem dX7_cube_55 : decode cX7_cube 55 = .ok (.getfield 7, 3) := by decide +kernel
theorem dX7_cube_58 : decode cX7_cube 58 = .ok (.iload_n 1, 1) := by decide +kernel
theorem dX7_cube_59 : decode cX7_cube 59 = .ok (.laload, 1) := by decide +kernel
theorem dX7_cube_60 : decode cX7_cube 60 = .ok (.invokestatic 92, 3) := by decide +kernel
theorem dX7_cube_63 : decode cX7_cube 63 = .ok (.bipush 10, 2) := by decide +kernel
theorem dX7_cube_65 : decode cX7_cube 65 = .ok (.if_icmp .ne 7, 3) := by decide +kernel
theorem dX7_cube_68 : decode cX7_cube 68 = .ok (.iconst 2, 1) := by decide +kernel
theorem dX7_cube_69 : decode cX7_cube 69 = .ok (.goto 4, 3) := by decide +kernel
theorem dX7_cube_72 : decode cX7_cube 72 = .ok (.iconst 0, 1) := by decide +kernel
theorem dX7_cube_73 : decode cX7_cube 73 = .ok (.putfield 78, 3) := by decide +kernel
theorem dX7_cube_76 : decode cX7_cube 76 = .ok (.aload_n 0, 1) := by decide +kernel
theorem dX7_cube_77 : decode cX7_cube 77 = .ok (.getfield 78, 3) := by decide +kernel
theorem dX7_cube_80 : decode cX7_cube 80 = .ok (.ifCond .le 5, 3) := by decide +kernel
theorem dX7_cube_83 : decode cX7_cube 83 = .ok (.iconst 0, 1) := by decide +kernel
theorem dX7_cube_84 : decode cX7_cube 84 = .ok (.ireturn, 1) := by decide +kernel
theorem dX7_cube_85 : decode cX7_cube 85 = .ok (.aload_n 0, 1) := by decide +kernel
theorem dX7_cube_86 : decode cX7_cube 86 = .ok (.getfield 7, 3) := by decide +kernel
theorem dX7_cube_89 : decode cX7_cube 89 = .ok (.iload_n 1, 1) := by decide +kernel
theorem dX7_cube_90 : decode cX7_cube 90 = .ok (.aload_n 0, 1) := by decide +kernel
theorem dX7_cube_91 : decode cX7_cube 91 = .ok (.getfield 7, 3) := by decide +kernel
theorem dX7_cube_94 : decode cX7_cube 94 = .ok (.iload_n 1, 1) := by decide +kernel
theorem dX7_cube_95 : decode cX7_cube 95 = .ok (.laload, 1) := by decide +kernel
theorem dX7_cube_96 : decode cX7_cube 96 = .ok (.lconst 1, 1) := by decide +kernel
theorem dX7_cube_97 : decode cX7_cube 97 = .ok (.iload_n 2, 1) := by decide +kernel
theorem dX7_cube_98 : decode cX7_cube 98 = .ok (.lshl, 1) := by decide +kernel
theorem dX7_cube_99 : decode cX7_cube 99 = .ok (.lxor, 1) := by decide +kernel
theorem dX7_cube_100 : decode cX7_cube 100 = .ok (.lastore, 1) := by decide +kernel
theorem dX7_cube_101 : decode cX7_cube 101 = .ok (.aload_n 0, 1) := by decide +kernel
theorem dX7_cube_102 : decode cX7_cube 102 = .ok (.getfield 33, 3) := by decide +kernel
theorem dX7_cube_105 : decode cX7_cube 105 = .ok (.iload_n 1, 1) := by decide +kernel
theorem dX7_cube_106 : decode cX7_cube 106 = .ok (.lconst 0, 1) := by decide +kernel
theorem dX7_cube_107 : decode cX7_cube 107 = .ok (.lastore, 1) := by decide +kernel
theorem dX7_cube_108 : decode cX7_cube 108 = .ok (.aload_n 0, 1) := by decide +kernel
theorem dX7_cube_109 : decode cX7_cube 109 = .ok (.getfield 7, 3) := by decide +kernel
theorem dX7_cube_112 : decode cX7_cube 112 = .ok (.iload_n 1, 1) := by decide +kernel
theorem dX7_cube_113 : decode cX7_cube 113 = .ok (.laload, 1) := by decide +kernel
theorem dX7_cube_114 : decode cX7_cube 114 = .ok (.invokestatic 92, 3) := by decide +kernel
theorem dX7_cube_117 : decode cX7_cube 117 = .ok (.ireturn, 1) := by decide +kernel
theorem dX7_mirror_0 : decode cX7_mirror 0 = .ok (.aload_n 0, 1) := by decide +kernel
theorem dX7_mirror_1 : decode cX7_mirror 1 = .ok (.iload_n 1, 1) := by decide +kernel
theorem dX7_mirror_2 : decode cX7_mirror 2 = .ok (.iconst 0, 1) := by decide +kernel
theorem dX7_mirror_3 : decode cX7_mirror 3 = .ok (.iconst 5, 1) := by decide +kernel
theorem dX7_mirror_4 : decode cX7_mirror 4 = .ok (.invokestatic 88, 3) := by decide +kernel
theorem dX7_mirror_7 : decode cX7_mirror 7 = .ok (.invokevirtual 96, 3) := by decide +kernel
theorem dX7_mirror_10 : decode cX7_mirror 10 = .ok (.ifCond .eq 10, 3) := by decide +kernel
theorem dX7_mirror_13 : decode cX7_mirror 13 = .ok (.aload_n 0, 1) := by decide +kernel
theorem dX7_mirror_14 : decode cX7_mirror 14 = .ok (.getfield 13, 3) := by decide +kernel
theorem dX7_mirror_17 : decode cX7_mirror 17 = .ok (.iload_n 1, 1) := by decide +kernel
theorem dX7_mirror_18 : decode cX7_mirror 18 = .ok (.iload_n 2, 1) := by decide +kernel
theorem dX7_mirror_19 : decode cX7_mirror 19 = .ok (.bastore, 1) := by decide +kernel
theorem dX7_mirror_20 : decode cX7_mirror 20 = .ok (.return_, 1) := by decide +kernel
theorem dX7_touch_0 : decode cX7_touch 0 = .ok (.iload_n 0, 1) := by decide +kernel
theorem dX7_touch_1 : decode cX7_touch 1 = .ok (.iconst 4, 1) := by decide +kernel
theorem dX7_touch_2 : decode cX7_touch 2 = .ok (.irem, 1) := by decide +kernel
theorem dX7_touch_3 : decode cX7_touch 3 = .ok (.iload_n 1, 1) := by decide +kernel
theorem dX7_touch_4 : decode cX7_touch 4 = .ok (.iconst 4, 1) := by decide +kernel
theorem dX7_touch_5 : decode cX7_touch 5 = .ok (.irem, 1) := by decide +kernel
theorem dX7_touch_6 : decode cX7_touch 6 = .ok (.isub, 1) := by decide +kernel
theorem dX7_touch_7 : decode cX7_touch 7 = .ok (.istore_n 2, 1) := by decide +kernel
theorem dX7_touch_8 : decode cX7_touch 8 = .ok (.iload_n 0, 1) := by decide +kernel
theorem dX7_touch_9 : decode cX7_touch 9 = .ok (.iconst 4, 1) := by decide +kernel
theorem dX7_touch_10 : decode cX7_touch 10 = .ok (.idiv, 1) := by decide +kernel
theorem dX7_touch_11 : decode cX7_touch 11 = .ok (.iconst 4, 1) := by decide +kernel
theorem dX7_touch_12 : decode cX7_touch 12 = .ok (.irem, 1) := by decide +kernel
theorem dX7_touch_13 : decode cX7_touch 13 = .ok (.iload_n 1, 1) := by decide +kernel
theorem dX7_touch_14 : decode cX7_touch 14 = .ok (.iconst 4, 1) := by decide +kernel
theorem dX7_touch_15 : decode cX7_touch 15 = .ok (.idiv, 1) := by decide +kernel
theorem dX7_touch_16 : decode cX7_touch 16 = .ok (.iconst 4, 1) := by decide +kernel
theorem dX7_touch_17 : decode cX7_touch 17 = .ok (.irem, 1) := by decide +kernel
theorem dX7_touch_18 : decode cX7_touch 18 = .ok (.isub, 1) := by decide +kernel
theorem dX7_touch_19 : decode cX7_touch 19 = .ok (.istore_n 3, 1) := by decide +kernel
theorem dX7_touch_20 : decode cX7_touch 20 = .ok (.iload_n 0, 1) := by decide +kernel
theorem dX7_touch_21 : decode cX7_touch 21 = .ok (.bipush 16, 2) := by decide +kernel
theorem dX7_touch_23 : decode cX7_touch 23 = .ok (.idiv, 1) := by decide +kernel
theorem dX7_touch_24 : decode cX7_touch 24 = .ok (.iload_n 1, 1) := by decide +kernel
theorem dX7_touch_25 : decode cX7_touch 25 = .ok (.bipush 16, 2) := by decide +kernel
theorem dX7_touch_27 : decode cX7_touch 27 = .ok (.idiv, 1) := by decide +kernel
theorem dX7_touch_28 : decode cX7_touch 28 = .ok (.isub, 1) := by decide +kernel
theorem dX7_touch_29 : decode cX7_touch 29 = .ok (.istore 4, 2) := by decide +kernel
theorem dX7_touch_31 : decode cX7_touch 31 = .ok (.iload_n 2, 1) := by decide +kernel
theorem dX7_touch_32 : decode cX7_touch 32 = .ok (.iload_n 2, 1) := by decide +kernel
theorem dX7_touch_33 : decode cX7_touch 33 = .ok (.imul, 1) := by decide +kernel
theorem dX7_touch_34 : decode cX7_touch 34 = .ok (.iload_n 3, 1) := by decide +kernel
theorem dX7_touch_35 : decode cX7_touch 35 = .ok (.iload_n 3, 1) := by decide +kernel
theorem dX7_touch_36 : decode cX7_touch 36 = .ok (.imul, 1) := by decide +kernel
theorem dX7_touch_37 : decode cX7_touch 37 = .ok (.iadd, 1) := by decide +kernel
theorem dX7_touch_38 : decode cX7_touch 38 = .ok (.iload 4, 2) := by decide +kernel
theorem dX7_touch_40 : decode cX7_touch 40 = .ok (.iload 4, 2) := by decide +kernel
