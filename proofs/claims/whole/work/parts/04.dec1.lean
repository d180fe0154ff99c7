theorem dX2_countPacking_8 : decode cX2_countPacking 8 = .ok (.if_icmp .ne 8, 3) := by decide +kernel
theorem dX2_countPacking_11 : decode cX2_countPacking 11 = .ok (.aload_n 0, 1) := by decide +kernel
theorem dX2_countPacking_12 : decode cX2_countPacking 12 = .ok (.iconst 1, 1) := by decide +kernel
theorem dX2_countPacking_13 : decode cX2_countPacking 13 = .ok (.putfield 40, 3) := by decide +kernel
theorem dX2_countPacking_16 : decode cX2_countPacking 16 = .ok (.aload_n 0, 1) := by decide +kernel
theorem dX2_countPacking_17 : decode cX2_countPacking 17 = .ok (.dup, 1) := by decide +kernel
theorem dX2_countPacking_18 : decode cX2_countPacking 18 = .ok (.getfield 23, 3) := by decide +kernel
theorem dX2_countPacking_21 : decode cX2_countPacking 21 = .ok (.iconst 1, 1) := by decide +kernel
theorem dX2_countPacking_22 : decode cX2_countPacking 22 = .ok (.iadd, 1) := by decide +kernel
theorem dX2_countPacking_23 : decode cX2_countPacking 23 = .ok (.putfield 23, 3) := by decide +kernel
theorem dX2_countPacking_26 : decode cX2_countPacking 26 = .ok (.return_, 1) := by decide +kernel
theorem dX2_tryPiece_0 : decode cX2_tryPiece 0 = .ok (.aload_n 0, 1) := by decide +kernel
theorem dX2_tryPiece_1 : decode cX2_tryPiece 1 = .ok (.getfield 9, 3) := by decide +kernel
theorem dX2_tryPiece_4 : decode cX2_tryPiece 4 = .ok (.iload_n 1, 1) := by decide +kernel
theorem dX2_tryPiece_5 : decode cX2_tryPiece 5 = .ok (.aaload, 1) := by decide +kernel
theorem dX2_tryPiece_6 : decode cX2_tryPiece 6 = .ok (.astore 7, 2) := by decide +kernel
theorem dX2_tryPiece_8 : decode cX2_tryPiece 8 = .ok (.aload 7, 2) := by decide +kernel
theorem dX2_tryPiece_10 : decode cX2_tryPiece 10 = .ok (.invokevirtual 76, 3) := by decide +kernel
theorem dX2_tryPiece_13 : decode cX2_tryPiece 13 = .ok (.istore 8, 2) := by decide +kernel
theorem dX2_tryPiece_15 : decode cX2_tryPiece 15 = .ok (.iconst 0, 1) := by decide +kernel
theorem dX2_tryPiece_16 : decode cX2_tryPiece 16 = .ok (.istore 9, 2) := by decide +kernel
theorem dX2_tryPiece_18 : decode cX2_tryPiece 18 = .ok (.iload 9, 2) := by decide +kernel
theorem dX2_tryPiece_20 : decode cX2_tryPiece 20 = .ok (.iload 8, 2) := by decide +kernel
theorem dX2_tryPiece_22 : decode cX2_tryPiece 22 = .ok (.if_icmp .ge 133, 3) := by decide +kernel
theorem dX2_tryPiece_25 : decode cX2_tryPiece 25 = .ok (.aload 7, 2) := by decide +kernel
theorem dX2_tryPiece_27 : decode cX2_tryPiece 27 = .ok (.iload_n 2, 1) := by decide +kernel
theorem dX2_tryPiece_28 : decode cX2_tryPiece 28 = .ok (.iload 9, 2) := by decide +kernel
theorem dX2_tryPiece_30 : decode cX2_tryPiece 30 = .ok (.invokevirtual 79, 3) := by decide +kernel
theorem dX2_tryPiece_33 : decode cX2_tryPiece 33 = .ok (.lstore 10, 2) := by decide +kernel
theorem dX2_tryPiece_35 : decode cX2_tryPiece 35 = .ok (.lload 10, 2) := by decide +kernel
theorem dX2_tryPiece_37 : decode cX2_tryPiece 37 = .ok (.lconst 0, 1) := by decide +kernel
theorem dX2_tryPiece_38 : decode cX2_tryPiece 38 = .ok (.lcmp, 1) := by decide +kernel
theorem dX2_tryPiece_39 : decode cX2_tryPiece 39 = .ok (.ifCond .eq 110, 3) := by decide +kernel
theorem dX2_tryPiece_42 : decode cX2_tryPiece 42 = .ok (.aload_n 0, 1) := by decide +kernel
theorem dX2_tryPiece_43 : decode cX2_tryPiece 43 = .ok (.getfield 40, 3) := by decide +kernel
theorem dX2_tryPiece_46 : decode cX2_tryPiece 46 = .ok (.ifCond .ne 103, 3) := by decide +kernel
theorem dX2_tryPiece_49 : decode cX2_tryPiece 49 = .ok (.aload_n 0, 1) := by decide +kernel
theorem dX2_tryPiece_50 : decode cX2_tryPiece 50 = .ok (.getfield 19, 3) := by decide +kernel
theorem dX2_tryPiece_53 : decode cX2_tryPiece 53 = .ok (.aload_n 0, 1) := by decide +kernel
theorem dX2_tryPiece_54 : decode cX2_tryPiece 54 = .ok (.getfield 37, 3) := by decide +kernel
theorem dX2_tryPiece_57 : decode cX2_tryPiece 57 = .ok (.if_icmp .lt 14, 3) := by decide +kernel
theorem dX2_tryPiece_60 : decode cX2_tryPiece 60 = .ok (.aload_n 0, 1) := by decide +kernel
theorem dX2_tryPiece_61 : decode cX2_tryPiece 61 = .ok (.iconst 1, 1) := by decide +kernel
theorem dX2_tryPiece_62 : decode cX2_tryPiece 62 = .ok (.putfield 40, 3) := by decide +kernel
theorem dX2_tryPiece_65 : decode cX2_tryPiece 65 = .ok (.aload_n 0, 1) := by decide +kernel
theorem dX2_tryPiece_66 : decode cX2_tryPiece 66 = .ok (.iconst 0, 1) := by decide +kernel
theorem dX2_tryPiece_67 : decode cX2_tryPiece 67 = .ok (.putfield 26, 3) := by decide +kernel
theorem dX2_tryPiece_70 : decode cX2_tryPiece 70 = .ok (.return_, 1) := by decide +kernel
theorem dX2_tryPiece_71 : decode cX2_tryPiece 71 = .ok (.aload_n 0, 1) := by decide +kernel
theorem dX2_tryPiece_72 : decode cX2_tryPiece 72 = .ok (.dup, 1) := by decide +kernel
theorem dX2_tryPiece_73 : decode cX2_tryPiece 73 = .ok (.getfield 19, 3) := by decide +kernel
theorem dX2_tryPiece_76 : decode cX2_tryPiece 76 = .ok (.iconst 1, 1) := by decide +kernel
theorem dX2_tryPiece_77 : decode cX2_tryPiece 77 = .ok (.iadd, 1) := by decide +kernel
theorem dX2_tryPiece_78 : decode cX2_tryPiece 78 = .ok (.putfield 19, 3) := by decide +kernel
theorem dX2_tryPiece_81 : decode cX2_tryPiece 81 = .ok (.aload 7, 2) := by decide +kernel
theorem dX2_tryPiece_83 : decode cX2_tryPiece 83 = .ok (.iload 9, 2) := by decide +kernel
theorem dX2_tryPiece_85 : decode cX2_tryPiece 85 = .ok (.bipush 64, 2) := by decide +kernel
theorem dX2_tryPiece_87 : decode cX2_tryPiece 87 = .ok (.imul, 1) := by decide +kernel
theorem dX2_tryPiece_88 : decode cX2_tryPiece 88 = .ok (.lload 10, 2) := by decide +kernel
theorem dX2_tryPiece_90 : decode cX2_tryPiece 90 = .ok (.invokestatic 70, 3) := by decide +kernel
theorem dX2_tryPiece_93 : decode cX2_tryPiece 93 = .ok (.iadd, 1) := by decide +kernel
theorem dX2_tryPiece_94 : decode cX2_tryPiece 94 = .ok (.invokevirtual 83, 3) := by decide +kernel
theorem dX2_tryPiece_97 : decode cX2_tryPiece 97 = .ok (.lstore 12, 2) := by decide +kernel
theorem dX2_tryPiece_99 : decode cX2_tryPiece 99 = .ok (.lload 12, 2) := by decide +kernel
theorem dX2_tryPiece_101 : decode cX2_tryPiece 101 = .ok (.lload 4, 2) := by decide +kernel
theorem dX2_tryPiece_103 : decode cX2_tryPiece 103 = .ok (.land, 1) := by decide +kernel
theorem dX2_tryPiece_104 : decode cX2_tryPiece 104 = .ok (.lconst 0, 1) := by decide +kernel
theorem dX2_tryPiece_105 : decode cX2_tryPiece 105 = .ok (.lcmp, 1) := by decide +kernel
theorem dX2_tryPiece_106 : decode cX2_tryPiece 106 = .ok (.ifCond .ne 31, 3) := by decide +kernel
theorem dX2_tryPiece_109 : decode cX2_tryPiece 109 = .ok (.aload_n 0, 1) := by decide +kernel
theorem dX2_tryPiece_110 : decode cX2_tryPiece 110 = .ok (.getfield 15, 3) := by decide +kernel
theorem dX2_tryPiece_113 : decode cX2_tryPiece 113 = .ok (.iload_n 1, 1) := by decide +kernel
theorem dX2_tryPiece_114 : decode cX2_tryPiece 114 = .ok (.lload 12, 2) := by decide +kernel
theorem dX2_tryPiece_116 : decode cX2_tryPiece 116 = .ok (.lastore, 1) := by decide +kernel
theorem dX2_tryPiece_117 : decode cX2_tryPiece 117 = .ok (.aload_n 0, 1) := by decide +kernel
theorem dX2_tryPiece_118 : decode cX2_tryPiece 118 = .ok (.iload_n 3, 1) := by decide +kernel
theorem dX2_tryPiece_119 : decode cX2_tryPiece 119 = .ok (.iconst 1, 1) := by decide +kernel
theorem dX2_tryPiece_120 : decode cX2_tryPiece 120 = .ok (.iadd, 1) := by decide +kernel
theorem dX2_tryPiece_121 : decode cX2_tryPiece 121 = .ok (.lload 4, 2) := by decide +kernel
theorem dX2_tryPiece_123 : decode cX2_tryPiece 123 = .ok (.lload 12, 2) := by decide +kernel
theorem dX2_tryPiece_125 : decode cX2_tryPiece 125 = .ok (.lor, 1) := by decide +kernel
theorem dX2_tryPiece_126 : decode cX2_tryPiece 126 = .ok (.iload 6, 2) := by decide +kernel
theorem dX2_tryPiece_128 : decode cX2_tryPiece 128 = .ok (.iconst 1, 1) := by decide +kernel
theorem dX2_tryPiece_129 : decode cX2_tryPiece 129 = .ok (.iload_n 1, 1) := by decide +kernel
theorem dX2_tryPiece_130 : decode cX2_tryPiece 130 = .ok (.ishl, 1) := by decide +kernel
theorem dX2_tryPiece_131 : decode cX2_tryPiece 131 = .ok (.iconst (-1), 1) := by decide +kernel
theorem dX2_tryPiece_132 : decode cX2_tryPiece 132 = .ok (.ixor, 1) := by decide +kernel
theorem dX2_tryPiece_133 : decode cX2_tryPiece 133 = .ok (.iand, 1) := by decide +kernel
theorem dX2_tryPiece_134 : decode cX2_tryPiece 134 = .ok (.invokevirtual 53, 3) := by decide +kernel
theorem dX2_tryPiece_137 : decode cX2_tryPiece 137 = .ok (.lload 10, 2) := by decide +kernel
theorem dX2_tryPiece_139 : decode cX2_tryPiece 139 = .ok (.lload 10, 2) := by decide +kernel
theorem dX2_tryPiece_141 : decode cX2_tryPiece 141 = .ok (.lconst 1, 1) := by decide +kernel
theorem dX2_tryPiece_142 : decode cX2_tryPiece 142 = .ok (.lsub, 1) := by decide +kernel
theorem dX2_tryPiece_143 : decode cX2_tryPiece 143 = .ok (.land, 1) := by decide +kernel
theorem dX2_tryPiece_144 : decode cX2_tryPiece 144 = .ok (.lstore 10, 2) := by decide +kernel
theorem dX2_tryPiece_146 : decode cX2_tryPiece 146 = .ok (.goto (-111), 3) := by decide +kernel
theorem dX2_tryPiece_149 : decode cX2_tryPiece 149 = .ok (.iinc 9 1, 3) := by decide +kernel
theorem dX2_tryPiece_152 : decode cX2_tryPiece 152 = .ok (.goto (-134), 3) := by decide +kernel
theorem dX2_tryPiece_155 : decode cX2_tryPiece 155 = .ok (.return_, 1) := by decide +kernel
theorem dX3_init_0 : decode cX3_init 0 = .ok (.aload_n 0, 1) := by decide +kernel
theorem dX3_init_1 : decode cX3_init 1 = .ok (.invokespecial 3, 3) := by decide +kernel
theorem dX3_init_4 : decode cX3_init 4 = .ok (.aload_n 0, 1) := by decide +kernel
theorem dX3_init_5 : decode cX3_init 5 = .ok (.iconst 3, 1) := by decide +kernel
theorem dX3_init_6 : decode cX3_init 6 = .ok (.newarray .int, 2) := by decide +kernel
theorem dX3_init_8 : decode cX3_init 8 = .ok (.putfield 9, 3) := by decide +kernel
theorem dX3_init_11 : decode cX3_init 11 = .ok (.aload_n 0, 1) := by decide +kernel
theorem dX3_init_12 : decode cX3_init 12 = .ok (.iconst 3, 1) := by decide +kernel
theorem dX3_init_13 : decode cX3_init 13 = .ok (.newarray .int, 2) := by decide +kernel
theorem dX3_init_15 : decode cX3_init 15 = .ok (.putfield 15, 3) := by decide +kernel
theorem dX3_init_18 : decode cX3_init 18 = .ok (.aload_n 0, 1) := by decide +kernel
theorem dX3_init_19 : decode cX3_init 19 = .ok (.iconst 1, 1) := by decide +kernel
theorem dX3_init_20 : decode cX3_init 20 = .ok (.putfield 18, 3) := by decide +kernel
theorem dX3_init_23 : decode cX3_init 23 = .ok (.return_, 1) := by decide +kernel
theorem dX3_clear_0 : decode cX3_clear 0 = .ok (.aload_n 0, 1) := by decide +kernel
theorem dX3_clear_1 : decode cX3_clear 1 = .ok (.iconst 1, 1) := by decide +kernel
theorem dX3_clear_2 : decode cX3_clear 2 = .ok (.putfield 18, 3) := by decide +kernel
theorem dX3_clear_5 : decode cX3_clear 5 = .ok (.return_, 1) := by decide +kernel
theorem dX3_cover_0 : decode cX3_cover 0 = .ok (.iconst 0, 1) := by decide +kernel
theorem dX3_cover_1 : decode cX3_cover 1 = .ok (.istore 4, 2) := by decide +kernel
theorem dX3_cover_3 : decode cX3_cover 3 = .ok (.iload 4, 2) := by decide +kernel
theorem dX3_cover_5 : decode cX3_cover 5 = .ok (.iconst 3, 1) := by decide +kernel
theorem dX3_cover_6 : decode cX3_cover 6 = .ok (.if_icmp .ge 103, 3) := by decide +kernel
theorem dX3_cover_9 : decode cX3_cover 9 = .ok (.aload_n 1, 1) := by decide +kernel
theorem dX3_cover_10 : decode cX3_cover 10 = .ok (.getfield 9, 3) := by decide +kernel
theorem dX3_cover_13 : decode cX3_cover 13 = .ok (.iload 4, 2) := by decide +kernel
theorem dX3_cover_15 : decode cX3_cover 15 = .ok (.iaload, 1) := by decide +kernel
theorem dX3_cover_16 : decode cX3_cover 16 = .ok (.aload_n 2, 1) := by decide +kernel
theorem dX3_cover_17 : decode cX3_cover 17 = .ok (.iload_n 3, 1) := by decide +kernel
theorem dX3_cover_18 : decode cX3_cover 18 = .ok (.iload 4, 2) := by decide +kernel
theorem dX3_cover_20 : decode cX3_cover 20 = .ok (.iadd, 1) := by decide +kernel
theorem dX3_cover_21 : decode cX3_cover 21 = .ok (.iaload, 1) := by decide +kernel
theorem dX3_cover_22 : decode cX3_cover 22 = .ok (.iadd, 1) := by decide +kernel
theorem dX3_cover_23 : decode cX3_cover 23 = .ok (.istore 5, 2) := by decide +kernel
theorem dX3_cover_25 : decode cX3_cover 25 = .ok (.aload_n 1, 1) := by decide +kernel
theorem dX3_cover_26 : decode cX3_cover 26 = .ok (.getfield 15, 3) := by decide +kernel
theorem dX3_cover_29 : decode cX3_cover 29 = .ok (.iload 4, 2) := by decide +kernel
theorem dX3_cover_31 : decode cX3_cover 31 = .ok (.iaload, 1) := by decide +kernel
theorem dX3_cover_32 : decode cX3_cover 32 = .ok (.aload_n 2, 1) := by decide +kernel
theorem dX3_cover_33 : decode cX3_cover 33 = .ok (.iload_n 3, 1) := by decide +kernel
theorem dX3_cover_34 : decode cX3_cover 34 = .ok (.iload 4, 2) := by decide +kernel
theorem dX3_cover_36 : decode cX3_cover 36 = .ok (.iadd, 1) := by decide +kernel
theorem dX3_cover_37 : decode cX3_cover 37 = .ok (.iaload, 1) := by decide +kernel
theorem dX3_cover_38 : decode cX3_cover 38 = .ok (.iadd, 1) := by decide +kernel
theorem dX3_cover_39 : decode cX3_cover 39 = .ok (.istore 6, 2) := by decide +kernel
theorem dX3_cover_41 : decode cX3_cover 41 = .ok (.aload_n 0, 1) := by decide +kernel
theorem dX3_cover_42 : decode cX3_cover 42 = .ok (.getfield 9, 3) := by decide +kernel
theorem dX3_cover_45 : decode cX3_cover 45 = .ok (.iload 4, 2) := by decide +kernel
theorem dX3_cover_47 : decode cX3_cover 47 = .ok (.aload_n 0, 1) := by decide +kernel
theorem dX3_cover_48 : decode cX3_cover 48 = .ok (.getfield 18, 3) := by decide +kernel
theorem dX3_cover_51 : decode cX3_cover 51 = .ok (.ifCond .eq 8, 3) := by decide +kernel
theorem dX3_cover_54 : decode cX3_cover 54 = .ok (.iload 5, 2) := by decide +kernel
theorem dX3_cover_56 : decode cX3_cover 56 = .ok (.goto 15, 3) := by decide +kernel
theorem dX3_cover_59 : decode cX3_cover 59 = .ok (.aload_n 0, 1) := by decide +kernel
theorem dX3_cover_60 : decode cX3_cover 60 = .ok (.getfield 9, 3) := by decide +kernel
theorem dX3_cover_63 : decode cX3_cover 63 = .ok (.iload 4, 2) := by decide +kernel
theorem dX3_cover_65 : decode cX3_cover 65 = .ok (.iaload, 1) := by decide +kernel
theorem dX3_cover_66 : decode cX3_cover 66 = .ok (.iload 5, 2) := by decide +kernel
theorem dX3_cover_68 : decode cX3_cover 68 = .ok (.invokestatic 22, 3) := by decide +kernel
theorem dX3_cover_71 : decode cX3_cover 71 = .ok (.iastore, 1) := by decide +kernel
theorem dX3_cover_72 : decode cX3_cover 72 = .ok (.aload_n 0, 1) := by decide +kernel
theorem dX3_cover_73 : decode cX3_cover 73 = .ok (.getfield 15, 3) := by decide +kernel
theorem dX3_cover_76 : decode cX3_cover 76 = .ok (.iload 4, 2) := by decide +kernel
theorem dX3_cover_78 : decode cX3_cover 78 = .ok (.aload_n 0, 1) := by decide +kernel
theorem dX3_cover_79 : decode cX3_cover 79 = .ok (.getfield 18, 3) := by decide +kernel
theorem dX3_cover_82 : decode cX3_cover 82 = .ok (.ifCond .eq 8, 3) := by decide +kernel
theorem dX3_cover_85 : decode cX3_cover 85 = .ok (.iload 6, 2) := by decide +kernel
theorem dX3_cover_87 : decode cX3_cover 87 = .ok (.goto 15, 3) := by decide +kernel
theorem dX3_cover_90 : decode cX3_cover 90 = .ok (.aload_n 0, 1) := by decide +kernel
theorem dX3_cover_91 : decode cX3_cover 91 = .ok (.getfield 15, 3) := by decide +kernel
theorem dX3_cover_94 : decode cX3_cover 94 = .ok (.iload 4, 2) := by decide +kernel
theorem dX3_cover_96 : decode cX3_cover 96 = .ok (.iaload, 1) := by decide +kernel
theorem dX3_cover_97 : decode cX3_cover 97 = .ok (.iload 6, 2) := by decide +kernel
theorem dX3_cover_99 : decode cX3_cover 99 = .ok (.invokestatic 28, 3) := by decide +kernel
theorem dX3_cover_102 : decode cX3_cover 102 = .ok (.iastore, 1) := by decide +kernel
theorem dX3_cover_103 : decode cX3_cover 103 = .ok (.iinc 4 1, 3) := by decide +kernel
theorem dX3_cover_106 : decode cX3_cover 106 = .ok (.goto (-103), 3) := by decide +kernel
theorem dX3_cover_109 : decode cX3_cover 109 = .ok (.aload_n 0, 1) := by decide +kernel
theorem dX3_cover_110 : decode cX3_cover 110 = .ok (.iconst 0, 1) := by decide +kernel
theorem dX3_cover_111 : decode cX3_cover 111 = .ok (.putfield 18, 3) := by decide +kernel
theorem dX3_cover_114 : decode cX3_cover 114 = .ok (.return_, 1) := by decide +kernel
theorem dX3_fit_0 : decode cX3_fit 0 = .ok (.iconst 0, 1) := by decide +kernel
theorem dX3_fit_1 : decode cX3_fit 1 = .ok (.istore_n 3, 1) := by decide +kernel
theorem dX3_fit_2 : decode cX3_fit 2 = .ok (.iload_n 3, 1) := by decide +kernel
theorem dX3_fit_3 : decode cX3_fit 3 = .ok (.iconst 3, 1) := by decide +kernel
theorem dX3_fit_4 : decode cX3_fit 4 = .ok (.if_icmp .ge 31, 3) := by decide +kernel
theorem dX3_fit_7 : decode cX3_fit 7 = .ok (.aload_n 0, 1) := by decide +kernel
theorem dX3_fit_8 : decode cX3_fit 8 = .ok (.getfield 9, 3) := by decide +kernel
theorem dX3_fit_11 : decode cX3_fit 11 = .ok (.iload_n 3, 1) := by decide +kernel
theorem dX3_fit_12 : decode cX3_fit 12 = .ok (.lload_n 1, 1) := by decide +kernel
theorem dX3_fit_13 : decode cX3_fit 13 = .ok (.iload_n 3, 1) := by decide +kernel
theorem dX3_fit_14 : decode cX3_fit 14 = .ok (.invokestatic 31, 3) := by decide +kernel
theorem dX3_fit_17 : decode cX3_fit 17 = .ok (.iastore, 1) := by decide +kernel
theorem dX3_fit_18 : decode cX3_fit 18 = .ok (.aload_n 0, 1) := by decide +kernel
theorem dX3_fit_19 : decode cX3_fit 19 = .ok (.getfield 15, 3) := by decide +kernel
theorem dX3_fit_22 : decode cX3_fit 22 = .ok (.iload_n 3, 1) := by decide +kernel
theorem dX3_fit_23 : decode cX3_fit 23 = .ok (.lload_n 1, 1) := by decide +kernel
theorem dX3_fit_24 : decode cX3_fit 24 = .ok (.iload_n 3, 1) := by decide +kernel
theorem dX3_fit_25 : decode cX3_fit 25 = .ok (.invokestatic 37, 3) := by decide +kernel
theorem dX3_fit_28 : decode cX3_fit 28 = .ok (.iastore, 1) := by decide +kernel
theorem dX3_fit_29 : decode cX3_fit 29 = .ok (.iinc 3 1, 3) := by decide +kernel
theorem dX3_fit_32 : decode cX3_fit 32 = .ok (.goto (-30), 3) := by decide +kernel
theorem dX3_fit_35 : decode cX3_fit 35 = .ok (.aload_n 0, 1) := by decide +kernel
theorem dX3_fit_36 : decode cX3_fit 36 = .ok (.iconst 0, 1) := by decide +kernel
theorem dX3_fit_37 : decode cX3_fit 37 = .ok (.putfield 18, 3) := by decide +kernel
theorem dX3_fit_40 : decode cX3_fit 40 = .ok (.return_, 1) := by decide +kernel
theorem dX3_isApart_0 : decode cX3_isApart 0 = .ok (.iconst 0, 1) := by decide +kernel
theorem dX3_isApart_1 : decode cX3_isApart 1 = .ok (.istore 4, 2) := by decide +kernel
theorem dX3_isApart_3 : decode cX3_isApart 3 = .ok (.iload 4, 2) := by decide +kernel
theorem dX3_isApart_5 : decode cX3_isApart 5 = .ok (.iconst 3, 1) := by decide +kernel
theorem dX3_isApart_6 : decode cX3_isApart 6 = .ok (.if_icmp .ge 64, 3) := by decide +kernel
theorem dX3_isApart_9 : decode cX3_isApart 9 = .ok (.iload 4, 2) := by decide +kernel
theorem dX3_isApart_11 : decode cX3_isApart 11 = .ok (.iload_n 2, 1) := by decide +kernel
theorem dX3_isApart_12 : decode cX3_isApart 12 = .ok (.if_icmp .ne 7, 3) := by decide +kernel
theorem dX3_isApart_15 : decode cX3_isApart 15 = .ok (.iload_n 3, 1) := by decide +kernel
theorem dX3_isApart_16 : decode cX3_isApart 16 = .ok (.goto 4, 3) := by decide +kernel
theorem dX3_isApart_19 : decode cX3_isApart 19 = .ok (.iconst 0, 1) := by decide +kernel
theorem dX3_isApart_20 : decode cX3_isApart 20 = .ok (.istore 5, 2) := by decide +kernel
theorem dX3_isApart_22 : decode cX3_isApart 22 = .ok (.aload_n 0, 1) := by decide +kernel
theorem dX3_isApart_23 : decode cX3_isApart 23 = .ok (.getfield 9, 3) := by decide +kernel
theorem dX3_isApart_26 : decode cX3_isApart 26 = .ok (.iload 4, 2) := by decide +kernel
theorem dX3_isApart_28 : decode cX3_isApart 28 = .ok (.iaload, 1) := by decide +kernel
theorem dX3_isApart_29 : decode cX3_isApart 29 = .ok (.iload 5, 2) := by decide +kernel
theorem dX3_isApart_31 : decode cX3_isApart 31 = .ok (.iadd, 1) := by decide +kernel
theorem dX3_isApart_32 : decode cX3_isApart 32 = .ok (.aload_n 1, 1) := by decide +kernel
theorem dX3_isApart_33 : decode cX3_isApart 33 = .ok (.getfield 15, 3) := by decide +kernel
theorem dX3_isApart_36 : decode cX3_isApart 36 = .ok (.iload 4, 2) := by decide +kernel
theorem dX3_isApart_38 : decode cX3_isApart 38 = .ok (.iaload, 1) := by decide +kernel
theorem dX3_isApart_39 : decode cX3_isApart 39 = .ok (.if_icmp .gt 23, 3) := by decide +kernel
theorem dX3_isApart_42 : decode cX3_isApart 42 = .ok (.aload_n 0, 1) := by decide +kernel
theorem dX3_isApart_43 : decode cX3_isApart 43 = .ok (.getfield 15, 3) := by decide +kernel
theorem dX3_isApart_46 : decode cX3_isApart 46 = .ok (.iload 4, 2) := by decide +kernel
theorem dX3_isApart_48 : decode cX3_isApart 48 = .ok (.iaload, 1) := by decide +kernel
theorem dX3_isApart_49 : decode cX3_isApart 49 = .ok (.iload 5, 2) := by decide +kernel
theorem dX3_isApart_51 : decode cX3_isApart 51 = .ok (.iadd, 1) := by decide +kernel
theorem dX3_isApart_52 : decode cX3_isApart 52 = .ok (.aload_n 1, 1) := by decide +kernel
theorem dX3_isApart_53 : decode cX3_isApart 53 = .ok (.getfield 9, 3) := by decide +kernel
theorem dX3_isApart_56 : decode cX3_isApart 56 = .ok (.iload 4, 2) := by decide +kernel
theorem dX3_isApart_58 : decode cX3_isApart 58 = .ok (.iaload, 1) := by decide +kernel
theorem dX3_isApart_59 : decode cX3_isApart 59 = .ok (.if_icmp .ge 5, 3) := by decide +kernel
theorem dX3_isApart_62 : decode cX3_isApart 62 = .ok (.iconst 1, 1) := by decide +kernel
theorem dX3_isApart_63 : decode cX3_isApart 63 = .ok (.ireturn, 1) := by decide +kernel
theorem dX3_isApart_64 : decode cX3_isApart 64 = .ok (.iinc 4 1, 3) := by decide +kernel
theorem dX3_isApart_67 : decode cX3_isApart 67 = .ok (.goto (-64), 3) := by decide +kernel
theorem dX3_isApart_70 : decode cX3_isApart 70 = .ok (.iconst 0, 1) := by decide +kernel
theorem dX3_isApart_71 : decode cX3_isApart 71 = .ok (.ireturn, 1) := by decide +kernel
theorem dX4_init_0 : decode cX4_init 0 = .ok (.aload_n 0, 1) := by decide +kernel
theorem dX4_init_1 : decode cX4_init 1 = .ok (.invokespecial 3, 3) := by decide +kernel
theorem dX4_init_4 : decode cX4_init 4 = .ok (.aload_n 0, 1) := by decide +kernel
theorem dX4_init_5 : decode cX4_init 5 = .ok (.sipush 5418, 3) := by decide +kernel
theorem dX4_init_8 : decode cX4_init 8 = .ok (.newarray .int, 2) := by decide +kernel
theorem dX4_init_10 : decode cX4_init 10 = .ok (.putfield 11, 3) := by decide +kernel
theorem dX4_init_13 : decode cX4_init 13 = .ok (.aload_n 0, 1) := by decide +kernel
theorem dX4_init_14 : decode cX4_init 14 = .ok (.sipush 300, 3) := by decide +kernel
theorem dX4_init_17 : decode cX4_init 17 = .ok (.newarray .int, 2) := by decide +kernel
theorem dX4_init_19 : decode cX4_init 19 = .ok (.putfield 15, 3) := by decide +kernel
theorem dX4_init_22 : decode cX4_init 22 = .ok (.aload_n 0, 1) := by decide +kernel
theorem dX4_init_23 : decode cX4_init 23 = .ok (.sipush 300, 3) := by decide +kernel
theorem dX4_init_26 : decode cX4_init 26 = .ok (.newarray .int, 2) := by decide +kernel
theorem dX4_init_28 : decode cX4_init 28 = .ok (.putfield 18, 3) := by decide +kernel
theorem dX4_init_31 : decode cX4_init 31 = .ok (.aload_n 0, 1) := by decide +kernel
theorem dX4_init_32 : decode cX4_init 32 = .ok (.sipush 300, 3) := by decide +kernel
theorem dX4_init_35 : decode cX4_init 35 = .ok (.newarray .int, 2) := by decide +kernel
theorem dX4_init_37 : decode cX4_init 37 = .ok (.putfield 21, 3) := by decide +kernel
theorem dX4_init_40 : decode cX4_init 40 = .ok (.aload_n 0, 1) := by decide +kernel
theorem dX4_init_41 : decode cX4_init 41 = .ok (.sipush 512, 3) := by decide +kernel
theorem dX4_init_44 : decode cX4_init 44 = .ok (.newarray .int, 2) := by decide +kernel
theorem dX4_init_46 : decode cX4_init 46 = .ok (.putfield 24, 3) := by decide +kernel
theorem dX4_init_49 : decode cX4_init 49 = .ok (.aload_n 0, 1) := by decide +kernel
theorem dX4_init_50 : decode cX4_init 50 = .ok (.sipush 300, 3) := by decide +kernel
theorem dX4_init_53 : decode cX4_init 53 = .ok (.newarray .int, 2) := by decide +kernel
theorem dX4_init_55 : decode cX4_init 55 = .ok (.putfield 27, 3) := by decide +kernel
theorem dX4_init_58 : decode cX4_init 58 = .ok (.return_, 1) := by decide +kernel
theorem dX4_size_0 : decode cX4_size 0 = .ok (.aload_n 0, 1) := by decide +kernel
theorem dX4_size_1 : decode cX4_size 1 = .ok (.getfield 30, 3) := by decide +kernel
theorem dX4_size_4 : decode cX4_size 4 = .ok (.ireturn, 1) := by decide +kernel
theorem dX4_offsets_0 : decode cX4_offsets 0 = .ok (.aload_n 0, 1) := by decide +kernel
theorem dX4_offsets_1 : decode cX4_offsets 1 = .ok (.getfield 11, 3) := by decide +kernel
theorem dX4_offsets_4 : decode cX4_offsets 4 = .ok (.areturn, 1) := by decide +kernel
theorem dX4_rowOf_0 : decode cX4_rowOf 0 = .ok (.iload_n 1, 1) := by decide +kernel
theorem dX4_rowOf_1 : decode cX4_rowOf 1 = .ok (.bipush 18, 2) := by decide +kernel
theorem dX4_rowOf_3 : decode cX4_rowOf 3 = .ok (.imul, 1) := by decide +kernel
theorem dX4_rowOf_4 : decode cX4_rowOf 4 = .ok (.iload_n 2, 1) := by decide +kernel
theorem dX4_rowOf_5 : decode cX4_rowOf 5 = .ok (.iconst 3, 1) := by decide +kernel
theorem dX4_rowOf_6 : decode cX4_rowOf 6 = .ok (.imul, 1) := by decide +kernel
theorem dX4_rowOf_7 : decode cX4_rowOf 7 = .ok (.iadd, 1) := by decide +kernel
theorem dX4_rowOf_8 : decode cX4_rowOf 8 = .ok (.ireturn, 1) := by decide +kernel
theorem dX4_levelOf_0 : decode cX4_levelOf 0 = .ok (.aload_n 0, 1) := by decide +kernel
theorem dX4_levelOf_1 : decode cX4_levelOf 1 = .ok (.getfield 21, 3) := by decide +kernel
theorem dX4_levelOf_4 : decode cX4_levelOf 4 = .ok (.iload_n 1, 1) := by decide +kernel
theorem dX4_levelOf_5 : decode cX4_levelOf 5 = .ok (.iaload, 1) := by decide +kernel
theorem dX4_levelOf_6 : decode cX4_levelOf 6 = .ok (.ireturn, 1) := by decide +kernel
theorem dX4_parentOf_0 : decode cX4_parentOf 0 = .ok (.aload_n 0, 1) := by decide +kernel
theorem dX4_parentOf_1 : decode cX4_parentOf 1 = .ok (.getfield 15, 3) := by decide +kernel
theorem dX4_parentOf_4 : decode cX4_parentOf 4 = .ok (.iload_n 1, 1) := by decide +kernel
theorem dX4_parentOf_5 : decode cX4_parentOf 5 = .ok (.iaload, 1) := by decide +kernel
theorem dX4_parentOf_6 : decode cX4_parentOf 6 = .ok (.ireturn, 1) := by decide +kernel
theorem dX4_moveTo_0 : decode cX4_moveTo 0 = .ok (.aload_n 0, 1) := by decide +kernel
theorem dX4_moveTo_1 : decode cX4_moveTo 1 = .ok (.getfield 18, 3) := by decide +kernel
theorem dX4_moveTo_4 : decode cX4_moveTo 4 = .ok (.iload_n 1, 1) := by decide +kernel
theorem dX4_moveTo_5 : decode cX4_moveTo 5 = .ok (.iaload, 1) := by decide +kernel
theorem dX4_moveTo_6 : decode cX4_moveTo 6 = .ok (.ireturn, 1) := by decide +kernel
theorem dX4_start_0 : decode cX4_start 0 = .ok (.aload_n 0, 1) := by decide +kernel
theorem dX4_start_1 : decode cX4_start 1 = .ok (.getfield 24, 3) := by decide +kernel
theorem dX4_start_4 : decode cX4_start 4 = .ok (.iconst (-1), 1) := by decide +kernel
theorem dX4_start_5 : decode cX4_start 5 = .ok (.invokestatic 34, 3) := by decide +kernel
theorem dX4_start_8 : decode cX4_start 8 = .ok (.aload_n 0, 1) := by decide +kernel
theorem dX4_start_9 : decode cX4_start 9 = .ok (.iconst 0, 1) := by decide +kernel
theorem dX4_start_10 : decode cX4_start 10 = .ok (.putfield 30, 3) := by decide +kernel
theorem dX4_start_13 : decode cX4_start 13 = .ok (.iconst 0, 1) := by decide +kernel
theorem dX4_start_14 : decode cX4_start 14 = .ok (.istore_n 1, 1) := by decide +kernel
theorem dX4_start_15 : decode cX4_start 15 = .ok (.iload_n 1, 1) := by decide +kernel
theorem dX4_start_16 : decode cX4_start 16 = .ok (.bipush 18, 2) := by decide +kernel
theorem dX4_start_18 : decode cX4_start 18 = .ok (.if_icmp .ge 16, 3) := by decide +kernel
theorem dX4_start_21 : decode cX4_start 21 = .ok (.aload_n 0, 1) := by decide +kernel
theorem dX4_start_22 : decode cX4_start 22 = .ok (.getfield 11, 3) := by decide +kernel
theorem dX4_start_25 : decode cX4_start 25 = .ok (.iload_n 1, 1) := by decide +kernel
theorem dX4_start_26 : decode cX4_start 26 = .ok (.iconst 0, 1) := by decide +kernel
theorem dX4_start_27 : decode cX4_start 27 = .ok (.iastore, 1) := by decide +kernel
theorem dX4_start_28 : decode cX4_start 28 = .ok (.iinc 1 1, 3) := by decide +kernel
theorem dX4_start_31 : decode cX4_start 31 = .ok (.goto (-16), 3) := by decide +kernel
theorem dX4_start_34 : decode cX4_start 34 = .ok (.aload_n 0, 1) := by decide +kernel
theorem dX4_start_35 : decode cX4_start 35 = .ok (.iconst (-1), 1) := by decide +kernel
theorem dX4_start_36 : decode cX4_start 36 = .ok (.iconst 0, 1) := by decide +kernel
theorem dX4_start_37 : decode cX4_start 37 = .ok (.invokevirtual 40, 3) := by decide +kernel
theorem dX4_start_40 : decode cX4_start 40 = .ok (.return_, 1) := by decide +kernel
theorem dX4_draft_0 : decode cX4_draft 0 = .ok (.aload_n 0, 1) := by decide +kernel
theorem dX4_draft_1 : decode cX4_draft 1 = .ok (.getfield 11, 3) := by decide +kernel
theorem dX4_draft_4 : decode cX4_draft 4 = .ok (.iload_n 1, 1) := by decide +kernel
theorem dX4_draft_5 : decode cX4_draft 5 = .ok (.bipush 18, 2) := by decide +kernel
theorem dX4_draft_7 : decode cX4_draft 7 = .ok (.imul, 1) := by decide +kernel
theorem dX4_draft_8 : decode cX4_draft 8 = .ok (.aload_n 0, 1) := by decide +kernel
theorem dX4_draft_9 : decode cX4_draft 9 = .ok (.getfield 11, 3) := by decide +kernel
theorem dX4_draft_12 : decode cX4_draft 12 = .ok (.aload_n 0, 1) := by decide +kernel
theorem dX4_draft_13 : decode cX4_draft 13 = .ok (.getfield 30, 3) := by decide +kernel
theorem dX4_draft_16 : decode cX4_draft 16 = .ok (.bipush 18, 2) := by decide +kernel
theorem dX4_draft_18 : decode cX4_draft 18 = .ok (.imul, 1) := by decide +kernel
theorem dX4_draft_19 : decode cX4_draft 19 = .ok (.bipush 18, 2) := by decide +kernel
theorem dX4_draft_21 : decode cX4_draft 21 = .ok (.invokestatic 44, 3) := by decide +kernel
theorem dX4_draft_24 : decode cX4_draft 24 = .ok (.iconst 0, 1) := by decide +kernel
theorem dX4_draft_25 : decode cX4_draft 25 = .ok (.istore 5, 2) := by decide +kernel
theorem dX4_draft_27 : decode cX4_draft 27 = .ok (.iload 5, 2) := by decide +kernel
theorem dX4_draft_29 : decode cX4_draft 29 = .ok (.bipush 6, 2) := by decide +kernel
theorem dX4_draft_31 : decode cX4_draft 31 = .ok (.if_icmp .ge 40, 3) := by decide +kernel
theorem dX4_draft_34 : decode cX4_draft 34 = .ok (.iload_n 2, 1) := by decide +kernel
theorem dX4_draft_35 : decode cX4_draft 35 = .ok (.iload 5, 2) := by decide +kernel
theorem dX4_draft_37 : decode cX4_draft 37 = .ok (.ishr, 1) := by decide +kernel
theorem dX4_draft_38 : decode cX4_draft 38 = .ok (.iconst 1, 1) := by decide +kernel
theorem dX4_draft_39 : decode cX4_draft 39 = .ok (.iand, 1) := by decide +kernel
theorem dX4_draft_40 : decode cX4_draft 40 = .ok (.ifCond .eq 25, 3) := by decide +kernel
theorem dX4_draft_43 : decode cX4_draft 43 = .ok (.aload_n 0, 1) := by decide +kernel
theorem dX4_draft_44 : decode cX4_draft 44 = .ok (.getfield 11, 3) := by decide +kernel
theorem dX4_draft_47 : decode cX4_draft 47 = .ok (.aload_n 0, 1) := by decide +kernel
theorem dX4_draft_48 : decode cX4_draft 48 = .ok (.aload_n 0, 1) := by decide +kernel
theorem dX4_draft_49 : decode cX4_draft 49 = .ok (.getfield 30, 3) := by decide +kernel
theorem dX4_draft_52 : decode cX4_draft 52 = .ok (.iload 5, 2) := by decide +kernel
theorem dX4_draft_54 : decode cX4_draft 54 = .ok (.invokevirtual 50, 3) := by decide +kernel
theorem dX4_draft_57 : decode cX4_draft 57 = .ok (.iload_n 3, 1) := by decide +kernel
theorem dX4_draft_58 : decode cX4_draft 58 = .ok (.iadd, 1) := by decide +kernel
theorem dX4_draft_59 : decode cX4_draft 59 = .ok (.dup2, 1) := by decide +kernel
theorem dX4_draft_60 : decode cX4_draft 60 = .ok (.iaload, 1) := by decide +kernel
theorem dX4_draft_61 : decode cX4_draft 61 = .ok (.iload 4, 2) := by decide +kernel
theorem dX4_draft_63 : decode cX4_draft 63 = .ok (.iadd, 1) := by decide +kernel
theorem dX4_draft_64 : decode cX4_draft 64 = .ok (.iastore, 1) := by decide +kernel
theorem dX4_draft_65 : decode cX4_draft 65 = .ok (.iinc 5 1, 3) := by decide +kernel
theorem dX4_draft_68 : decode cX4_draft 68 = .ok (.goto (-41), 3) := by decide +kernel
theorem dX4_draft_71 : decode cX4_draft 71 = .ok (.return_, 1) := by decide +kernel
theorem dX4_knowsDraft_0 : decode cX4_knowsDraft 0 = .ok (.aload_n 0, 1) := by decide +kernel
theorem dX4_knowsDraft_1 : decode cX4_knowsDraft 1 = .ok (.getfield 24, 3) := by decide +kernel
theorem dX4_knowsDraft_4 : decode cX4_knowsDraft 4 = .ok (.aload_n 0, 1) := by decide +kernel
theorem dX4_knowsDraft_5 : decode cX4_knowsDraft 5 = .ok (.invokevirtual 54, 3) := by decide +kernel
theorem dX4_knowsDraft_8 : decode cX4_knowsDraft 8 = .ok (.iaload, 1) := by decide +kernel
theorem dX4_knowsDraft_9 : decode cX4_knowsDraft 9 = .ok (.istore_n 1, 1) := by decide +kernel
theorem dX4_knowsDraft_10 : decode cX4_knowsDraft 10 = .ok (.iconst 0, 1) := by decide +kernel
theorem dX4_knowsDraft_11 : decode cX4_knowsDraft 11 = .ok (.istore_n 2, 1) := by decide +kernel
theorem dX4_knowsDraft_12 : decode cX4_knowsDraft 12 = .ok (.iload_n 2, 1) := by decide +kernel
theorem dX4_knowsDraft_13 : decode cX4_knowsDraft 13 = .ok (.sipush 300, 3) := by decide +kernel
theorem dX4_knowsDraft_16 : decode cX4_knowsDraft 16 = .ok (.if_icmp .ge 31, 3) := by decide +kernel
theorem dX4_knowsDraft_19 : decode cX4_knowsDraft 19 = .ok (.iload_n 1, 1) := by decide +kernel
theorem dX4_knowsDraft_20 : decode cX4_knowsDraft 20 = .ok (.iconst (-1), 1) := by decide +kernel
theorem dX4_knowsDraft_21 : decode cX4_knowsDraft 21 = .ok (.if_icmp .eq 26, 3) := by decide +kernel
theorem dX4_knowsDraft_24 : decode cX4_knowsDraft 24 = .ok (.aload_n 0, 1) := by decide +kernel
theorem dX4_knowsDraft_25 : decode cX4_knowsDraft 25 = .ok (.iload_n 1, 1) := by decide +kernel
theorem dX4_knowsDraft_26 : decode cX4_knowsDraft 26 = .ok (.invokevirtual 58, 3) := by decide +kernel
theorem dX4_knowsDraft_29 : decode cX4_knowsDraft 29 = .ok (.ifCond .eq 5, 3) := by decide +kernel
theorem dX4_knowsDraft_32 : decode cX4_knowsDraft 32 = .ok (.iconst 1, 1) := by decide +kernel
theorem dX4_knowsDraft_33 : decode cX4_knowsDraft 33 = .ok (.ireturn, 1) := by decide +kernel
theorem dX4_knowsDraft_34 : decode cX4_knowsDraft 34 = .ok (.aload_n 0, 1) := by decide +kernel
theorem dX4_knowsDraft_35 : decode cX4_knowsDraft 35 = .ok (.getfield 27, 3) := by decide +kernel
theorem dX4_knowsDraft_38 : decode cX4_knowsDraft 38 = .ok (.iload_n 1, 1) := by decide +kernel
theorem dX4_knowsDraft_39 : decode cX4_knowsDraft 39 = .ok (.iaload, 1) := by decide +kernel
theorem dX4_knowsDraft_40 : decode cX4_knowsDraft 40 = .ok (.istore_n 1, 1) := by decide +kernel
theorem dX4_knowsDraft_41 : decode cX4_knowsDraft 41 = .ok (.iinc 2 1, 3) := by decide +kernel
theorem dX4_knowsDraft_44 : decode cX4_knowsDraft 44 = .ok (.goto (-32), 3) := by decide +kernel
theorem dX4_knowsDraft_47 : decode cX4_knowsDraft 47 = .ok (.iconst 0, 1) := by decide +kernel
theorem dX4_knowsDraft_48 : decode cX4_knowsDraft 48 = .ok (.ireturn, 1) := by decide +kernel
theorem dX4_add_0 : decode cX4_add 0 = .ok (.aload_n 0, 1) := by decide +kernel
theorem dX4_add_1 : decode cX4_add 1 = .ok (.getfield 30, 3) := by decide +kernel
theorem dX4_add_4 : decode cX4_add 4 = .ok (.sipush 300, 3) := by decide +kernel
theorem dX4_add_7 : decode cX4_add 7 = .ok (.if_icmp .lt 4, 3) := by decide +kernel
theorem dX4_add_10 : decode cX4_add 10 = .ok (.return_, 1) := by decide +kernel
theorem dX4_add_11 : decode cX4_add 11 = .ok (.aload_n 0, 1) := by decide +kernel
theorem dX4_add_12 : decode cX4_add 12 = .ok (.invokevirtual 54, 3) := by decide +kernel
theorem dX4_add_15 : decode cX4_add 15 = .ok (.istore_n 3, 1) := by decide +kernel
theorem dX4_add_16 : decode cX4_add 16 = .ok (.aload_n 0, 1) := by decide +kernel
theorem dX4_add_17 : decode cX4_add 17 = .ok (.getfield 15, 3) := by decide +kernel
theorem dX4_add_20 : decode cX4_add 20 = .ok (.aload_n 0, 1) := by decide +kernel
theorem dX4_add_21 : decode cX4_add 21 = .ok (.getfield 30, 3) := by decide +kernel
theorem dX4_add_24 : decode cX4_add 24 = .ok (.iload_n 1, 1) := by decide +kernel
theorem dX4_add_25 : decode cX4_add 25 = .ok (.iastore, 1) := by decide +kernel
theorem dX4_add_26 : decode cX4_add 26 = .ok (.aload_n 0, 1) := by decide +kernel
theorem dX4_add_27 : decode cX4_add 27 = .ok (.getfield 18, 3) := by decide +kernel
theorem dX4_add_30 : decode cX4_add 30 = .ok (.aload_n 0, 1) := by decide +kernel
theorem dX4_add_31 : decode cX4_add 31 = .ok (.getfield 30, 3) := by decide +kernel
theorem dX4_add_34 : decode cX4_add 34 = .ok (.iload_n 2, 1) := by decide +kernel
theorem dX4_add_35 : decode cX4_add 35 = .ok (.iastore, 1) := by decide +kernel
theorem dX4_add_36 : decode cX4_add 36 = .ok (.aload_n 0, 1) := by decide +kernel
theorem dX4_add_37 : decode cX4_add 37 = .ok (.getfield 21, 3) := by decide +kernel
theorem dX4_add_40 : decode cX4_add 40 = .ok (.aload_n 0, 1) := by decide +kernel
theorem dX4_add_41 : decode cX4_add 41 = .ok (.getfield 30, 3) := by decide +kernel
theorem dX4_add_44 : decode cX4_add 44 = .ok (.iload_n 1, 1) := by decide +kernel
theorem dX4_add_45 : decode cX4_add 45 = .ok (.iconst (-1), 1) := by decide +kernel
theorem dX4_add_46 : decode cX4_add 46 = .ok (.if_icmp .ne 7, 3) := by decide +kernel
theorem dX4_add_49 : decode cX4_add 49 = .ok (.iconst 0, 1) := by decide +kernel
theorem dX4_add_50 : decode cX4_add 50 = .ok (.goto 11, 3) := by decide +kernel
theorem dX4_add_53 : decode cX4_add 53 = .ok (.aload_n 0, 1) := by decide +kernel
theorem dX4_add_54 : decode cX4_add 54 = .ok (.getfield 21, 3) := by decide +kernel
theorem dX4_add_57 : decode cX4_add 57 = .ok (.iload_n 1, 1) := by decide +kernel
theorem dX4_add_58 : decode cX4_add 58 = .ok (.iaload, 1) := by decide +kernel
theorem dX4_add_59 : decode cX4_add 59 = .ok (.iconst 1, 1) := by decide +kernel
theorem dX4_add_60 : decode cX4_add 60 = .ok (.iadd, 1) := by decide +kernel
theorem dX4_add_61 : decode cX4_add 61 = .ok (.iastore, 1) := by decide +kernel
theorem dX4_add_62 : decode cX4_add 62 = .ok (.aload_n 0, 1) := by decide +kernel
theorem dX4_add_63 : decode cX4_add 63 = .ok (.getfield 27, 3) := by decide +kernel
theorem dX4_add_66 : decode cX4_add 66 = .ok (.aload_n 0, 1) := by decide +kernel
theorem dX4_add_67 : decode cX4_add 67 = .ok (.getfield 30, 3) := by decide +kernel
theorem dX4_add_70 : decode cX4_add 70 = .ok (.aload_n 0, 1) := by decide +kernel
theorem dX4_add_71 : decode cX4_add 71 = .ok (.getfield 24, 3) := by decide +kernel
theorem dX4_add_74 : decode cX4_add 74 = .ok (.iload_n 3, 1) := by decide +kernel
theorem dX4_add_75 : decode cX4_add 75 = .ok (.iaload, 1) := by decide +kernel
theorem dX4_add_76 : decode cX4_add 76 = .ok (.iastore, 1) := by decide +kernel
theorem dX4_add_77 : decode cX4_add 77 = .ok (.aload_n 0, 1) := by decide +kernel
theorem dX4_add_78 : decode cX4_add 78 = .ok (.getfield 24, 3) := by decide +kernel
theorem dX4_add_81 : decode cX4_add 81 = .ok (.iload_n 3, 1) := by decide +kernel
theorem dX4_add_82 : decode cX4_add 82 = .ok (.aload_n 0, 1) := by decide +kernel
theorem dX4_add_83 : decode cX4_add 83 = .ok (.getfield 30, 3) := by decide +kernel
theorem dX4_add_86 : decode cX4_add 86 = .ok (.iastore, 1) := by decide +kernel
theorem dX4_add_87 : decode cX4_add 87 = .ok (.aload_n 0, 1) := by decide +kernel
theorem dX4_add_88 : decode cX4_add 88 = .ok (.dup, 1) := by decide +kernel
theorem dX4_add_89 : decode cX4_add 89 = .ok (.getfield 30, 3) := by decide +kernel
theorem dX4_add_92 : decode cX4_add 92 = .ok (.iconst 1, 1) := by decide +kernel
theorem dX4_add_93 : decode cX4_add 93 = .ok (.iadd, 1) := by decide +kernel
theorem dX4_add_94 : decode cX4_add 94 = .ok (.putfield 30, 3) := by decide +kernel
theorem dX4_add_97 : decode cX4_add 97 = .ok (.return_, 1) := by decide +kernel
theorem dX4_hashOfDraft_0 : decode cX4_hashOfDraft 0 = .ok (.iconst 0, 1) := by decide +kernel
theorem dX4_hashOfDraft_1 : decode cX4_hashOfDraft 1 = .ok (.istore_n 1, 1) := by decide +kernel
theorem dX4_hashOfDraft_2 : decode cX4_hashOfDraft 2 = .ok (.iconst 0, 1) := by decide +kernel
theorem dX4_hashOfDraft_3 : decode cX4_hashOfDraft 3 = .ok (.istore_n 2, 1) := by decide +kernel
theorem dX4_hashOfDraft_4 : decode cX4_hashOfDraft 4 = .ok (.iload_n 2, 1) := by decide +kernel
theorem dX4_hashOfDraft_5 : decode cX4_hashOfDraft 5 = .ok (.bipush 18, 2) := by decide +kernel
theorem dX4_hashOfDraft_7 : decode cX4_hashOfDraft 7 = .ok (.if_icmp .ge 29, 3) := by decide +kernel
theorem dX4_hashOfDraft_10 : decode cX4_hashOfDraft 10 = .ok (.iload_n 1, 1) := by decide +kernel
theorem dX4_hashOfDraft_11 : decode cX4_hashOfDraft 11 = .ok (.bipush 31, 2) := by decide +kernel
theorem dX4_hashOfDraft_13 : decode cX4_hashOfDraft 13 = .ok (.imul, 1) := by decide +kernel
theorem dX4_hashOfDraft_14 : decode cX4_hashOfDraft 14 = .ok (.aload_n 0, 1) := by decide +kernel
theorem dX4_hashOfDraft_15 : decode cX4_hashOfDraft 15 = .ok (.getfield 11, 3) := by decide +kernel
theorem dX4_hashOfDraft_18 : decode cX4_hashOfDraft 18 = .ok (.aload_n 0, 1) := by decide +kernel
theorem dX4_hashOfDraft_19 : decode cX4_hashOfDraft 19 = .ok (.getfield 30, 3) := by decide +kernel
theorem dX4_hashOfDraft_22 : decode cX4_hashOfDraft 22 = .ok (.bipush 18, 2) := by decide +kernel
theorem dX4_hashOfDraft_24 : decode cX4_hashOfDraft 24 = .ok (.imul, 1) := by decide +kernel
theorem dX4_hashOfDraft_25 : decode cX4_hashOfDraft 25 = .ok (.iload_n 2, 1) := by decide +kernel
theorem dX4_hashOfDraft_26 : decode cX4_hashOfDraft 26 = .ok (.iadd, 1) := by decide +kernel
theorem dX4_hashOfDraft_27 : decode cX4_hashOfDraft 27 = .ok (.iaload, 1) := by decide +kernel
theorem dX4_hashOfDraft_28 : decode cX4_hashOfDraft 28 = .ok (.iadd, 1) := by decide +kernel
theorem dX4_hashOfDraft_29 : decode cX4_hashOfDraft 29 = .ok (.istore_n 1, 1) := by decide +kernel
theorem dX4_hashOfDraft_30 : decode cX4_hashOfDraft 30 = .ok (.iinc 2 1, 3) := by decide +kernel
theorem dX4_hashOfDraft_33 : decode cX4_hashOfDraft 33 = .ok (.goto (-29), 3) := by decide +kernel
theorem dX4_hashOfDraft_36 : decode cX4_hashOfDraft 36 = .ok (.iload_n 1, 1) := by decide +kernel
theorem dX4_hashOfDraft_37 : decode cX4_hashOfDraft 37 = .ok (.iload_n 1, 1) := by decide +kernel
theorem dX4_hashOfDraft_38 : decode cX4_hashOfDraft 38 = .ok (.bipush 9, 2) := by decide +kernel
theorem dX4_hashOfDraft_40 : decode cX4_hashOfDraft 40 = .ok (.iushr, 1) := by decide +kernel
theorem dX4_hashOfDraft_41 : decode cX4_hashOfDraft 41 = .ok (.ixor, 1) := by decide +kernel
theorem dX4_hashOfDraft_42 : decode cX4_hashOfDraft 42 = .ok (.sipush 511, 3) := by decide +kernel
theorem dX4_hashOfDraft_45 : decode cX4_hashOfDraft 45 = .ok (.iand, 1) := by decide +kernel
theorem dX4_hashOfDraft_46 : decode cX4_hashOfDraft 46 = .ok (.ireturn, 1) := by decide +kernel
theorem dX4_isDraft_0 : decode cX4_isDraft 0 = .ok (.iconst 0, 1) := by decide +kernel
theorem dX4_isDraft_1 : decode cX4_isDraft 1 = .ok (.istore_n 2, 1) := by decide +kernel
theorem dX4_isDraft_2 : decode cX4_isDraft 2 = .ok (.iload_n 2, 1) := by decide +kernel
theorem dX4_isDraft_3 : decode cX4_isDraft 3 = .ok (.bipush 18, 2) := by decide +kernel
theorem dX4_isDraft_5 : decode cX4_isDraft 5 = .ok (.if_icmp .ge 39, 3) := by decide +kernel
theorem dX4_isDraft_8 : decode cX4_isDraft 8 = .ok (.aload_n 0, 1) := by decide +kernel
theorem dX4_isDraft_9 : decode cX4_isDraft 9 = .ok (.getfield 11, 3) := by decide +kernel
theorem dX4_isDraft_12 : decode cX4_isDraft 12 = .ok (.iload_n 1, 1) := by decide +kernel
theorem dX4_isDraft_13 : decode cX4_isDraft 13 = .ok (.bipush 18, 2) := by decide +kernel
theorem dX4_isDraft_15 : decode cX4_isDraft 15 = .ok (.imul, 1) := by decide +kernel
theorem dX4_isDraft_16 : decode cX4_isDraft 16 = .ok (.iload_n 2, 1) := by decide +kernel
theorem dX4_isDraft_17 : decode cX4_isDraft 17 = .ok (.iadd, 1) := by decide +kernel
theorem dX4_isDraft_18 : decode cX4_isDraft 18 = .ok (.iaload, 1) := by decide +kernel
theorem dX4_isDraft_19 : decode cX4_isDraft 19 = .ok (.aload_n 0, 1) := by decide +kernel
theorem dX4_isDraft_20 : decode cX4_isDraft 20 = .ok (.getfield 11, 3) := by decide +kernel
theorem dX4_isDraft_23 : decode cX4_isDraft 23 = .ok (.aload_n 0, 1) := by decide +kernel
theorem dX4_isDraft_24 : decode cX4_isDraft 24 = .ok (.getfield 30, 3) := by decide +kernel
theorem dX4_isDraft_27 : decode cX4_isDraft 27 = .ok (.bipush 18, 2) := by decide +kernel
theorem dX4_isDraft_29 : decode cX4_isDraft 29 = .ok (.imul, 1) := by decide +kernel
theorem dX4_isDraft_30 : decode cX4_isDraft 30 = .ok (.iload_n 2, 1) := by decide +kernel
theorem dX4_isDraft_31 : decode cX4_isDraft 31 = .ok (.iadd, 1) := by decide +kernel
theorem dX4_isDraft_32 : decode cX4_isDraft 32 = .ok (.iaload, 1) := by decide +kernel
theorem dX4_isDraft_33 : decode cX4_isDraft 33 = .ok (.if_icmp .eq 5, 3) := by decide +kernel
theorem dX4_isDraft_36 : decode cX4_isDraft 36 = .ok (.iconst 0, 1) := by decide +kernel
theorem dX4_isDraft_37 : decode cX4_isDraft 37 = .ok (.ireturn, 1) := by decide +kernel
theorem dX4_isDraft_38 : decode cX4_isDraft 38 = .ok (.iinc 2 1, 3) := by decide +kernel
theorem dX4_isDraft_41 : decode cX4_isDraft 41 = .ok (.goto (-39), 3) := by decide +kernel
theorem dX4_isDraft_44 : decode cX4_isDraft 44 = .ok (.iconst 1, 1) := by decide +kernel
theorem dX4_isDraft_45 : decode cX4_isDraft 45 = .ok (.ireturn, 1) := by decide +kernel
theorem dX5_init_0 : decode cX5_init 0 = .ok (.aload_n 0, 1) := by decide +kernel
theorem dX5_init_1 : decode cX5_init 1 = .ok (.invokespecial 3, 3) := by decide +kernel
theorem dX5_init_4 : decode cX5_init 4 = .ok (.aload_n 0, 1) := by decide +kernel
theorem dX5_init_5 : decode cX5_init 5 = .ok (.new 9, 3) := by decide +kernel
theorem dX5_init_8 : decode cX5_init 8 = .ok (.dup, 1) := by decide +kernel
theorem dX5_init_9 : decode cX5_init 9 = .ok (.invokespecial 11, 3) := by decide +kernel
theorem dX5_init_12 : decode cX5_init 12 = .ok (.putfield 12, 3) := by decide +kernel
theorem dX5_init_15 : decode cX5_init 15 = .ok (.aload_n 0, 1) := by decide +kernel
theorem dX5_init_16 : decode cX5_init 16 = .ok (.bipush 6, 2) := by decide +kernel
theorem dX5_init_18 : decode cX5_init 18 = .ok (.newarray .long, 2) := by decide +kernel
theorem dX5_init_20 : decode cX5_init 20 = .ok (.putfield 18, 3) := by decide +kernel
theorem dX5_init_23 : decode cX5_init 23 = .ok (.aload_n 0, 1) := by decide +kernel
theorem dX5_init_24 : decode cX5_init 24 = .ok (.bipush 6, 2) := by decide +kernel
theorem dX5_init_26 : decode cX5_init 26 = .ok (.anewarray 22, 3) := by decide +kernel
theorem dX5_init_29 : decode cX5_init 29 = .ok (.putfield 24, 3) := by decide +kernel
theorem dX5_init_32 : decode cX5_init 32 = .ok (.iconst 0, 1) := by decide +kernel
theorem dX5_init_33 : decode cX5_init 33 = .ok (.istore_n 1, 1) := by decide +kernel
theorem dX5_init_34 : decode cX5_init 34 = .ok (.iload_n 1, 1) := by decide +kernel
theorem dX5_init_35 : decode cX5_init 35 = .ok (.bipush 6, 2) := by decide +kernel
theorem dX5_init_37 : decode cX5_init 37 = .ok (.if_icmp .ge 22, 3) := by decide +kernel
theorem dX5_init_40 : decode cX5_init 40 = .ok (.aload_n 0, 1) := by decide +kernel
theorem dX5_init_41 : decode cX5_init 41 = .ok (.getfield 24, 3) := by decide +kernel
theorem dX5_init_44 : decode cX5_init 44 = .ok (.iload_n 1, 1) := by decide +kernel
theorem dX5_init_45 : decode cX5_init 45 = .ok (.new 22, 3) := by decide +kernel
theorem dX5_init_48 : decode cX5_init 48 = .ok (.dup, 1) := by decide +kernel
theorem dX5_init_49 : decode cX5_init 49 = .ok (.invokespecial 28, 3) := by decide +kernel
theorem dX5_init_52 : decode cX5_init 52 = .ok (.aastore, 1) := by decide +kernel
theorem dX5_init_53 : decode cX5_init 53 = .ok (.iinc 1 1, 3) := by decide +kernel
theorem dX5_init_56 : decode cX5_init 56 = .ok (.goto (-22), 3) := by decide +kernel
theorem dX5_init_59 : decode cX5_init 59 = .ok (.aload_n 0, 1) := by decide +kernel
theorem dX5_init_60 : decode cX5_init 60 = .ok (.new 22, 3) := by decide +kernel
theorem dX5_init_63 : decode cX5_init 63 = .ok (.dup, 1) := by decide +kernel
theorem dX5_init_64 : decode cX5_init 64 = .ok (.invokespecial 28, 3) := by decide +kernel
theorem dX5_init_67 : decode cX5_init 67 = .ok (.putfield 29, 3) := by decide +kernel
theorem dX5_init_70 : decode cX5_init 70 = .ok (.aload_n 0, 1) := by decide +kernel
theorem dX5_init_71 : decode cX5_init 71 = .ok (.new 22, 3) := by decide +kernel
theorem dX5_init_74 : decode cX5_init 74 = .ok (.dup, 1) := by decide +kernel
theorem dX5_init_75 : decode cX5_init 75 = .ok (.invokespecial 28, 3) := by decide +kernel
theorem dX5_init_78 : decode cX5_init 78 = .ok (.putfield 33, 3) := by decide +kernel
theorem dX5_init_81 : decode cX5_init 81 = .ok (.aload_n 0, 1) := by decide +kernel
theorem dX5_init_82 : decode cX5_init 82 = .ok (.sipush 216, 3) := by decide +kernel
theorem dX5_init_85 : decode cX5_init 85 = .ok (.newarray .int, 2) := by decide +kernel
theorem dX5_init_87 : decode cX5_init 87 = .ok (.putfield 36, 3) := by decide +kernel
theorem dX5_init_90 : decode cX5_init 90 = .ok (.aload_n 0, 1) := by decide +kernel
theorem dX5_init_91 : decode cX5_init 91 = .ok (.sipush 300, 3) := by decide +kernel
theorem dX5_init_94 : decode cX5_init 94 = .ok (.newarray .int, 2) := by decide +kernel
theorem dX5_init_96 : decode cX5_init 96 = .ok (.putfield 40, 3) := by decide +kernel
theorem dX5_init_99 : decode cX5_init 99 = .ok (.return_, 1) := by decide +kernel
theorem dX5_countKept_0 : decode cX5_countKept 0 = .ok (.aload_n 0, 1) := by decide +kernel
theorem dX5_countKept_1 : decode cX5_countKept 1 = .ok (.getfield 12, 3) := by decide +kernel
theorem dX5_countKept_4 : decode cX5_countKept 4 = .ok (.invokevirtual 43, 3) := by decide +kernel
theorem dX5_countKept_7 : decode cX5_countKept 7 = .ok (.ireturn, 1) := by decide +kernel
theorem dX5_countMoves_0 : decode cX5_countMoves 0 = .ok (.aload_n 0, 1) := by decide +kernel
theorem dX5_countMoves_1 : decode cX5_countMoves 1 = .ok (.getfield 47, 3) := by decide +kernel
theorem dX5_countMoves_4 : decode cX5_countMoves 4 = .ok (.ireturn, 1) := by decide +kernel
theorem dX5_moveAt_0 : decode cX5_moveAt 0 = .ok (.aload_n 0, 1) := by decide +kernel
theorem dX5_moveAt_1 : decode cX5_moveAt 1 = .ok (.getfield 40, 3) := by decide +kernel
theorem dX5_moveAt_4 : decode cX5_moveAt 4 = .ok (.iload_n 1, 1) := by decide +kernel
theorem dX5_moveAt_5 : decode cX5_moveAt 5 = .ok (.iaload, 1) := by decide +kernel
theorem dX5_moveAt_6 : decode cX5_moveAt 6 = .ok (.ireturn, 1) := by decide +kernel
theorem dX5_look_0 : decode cX5_look 0 = .ok (.aload_n 0, 1) := by decide +kernel
theorem dX5_look_1 : decode cX5_look 1 = .ok (.iload_n 2, 1) := by decide +kernel
theorem dX5_look_2 : decode cX5_look 2 = .ok (.putfield 51, 3) := by decide +kernel
theorem dX5_look_5 : decode cX5_look 5 = .ok (.aload_n 0, 1) := by decide +kernel
theorem dX5_look_6 : decode cX5_look 6 = .ok (.iload_n 3, 1) := by decide +kernel
theorem dX5_look_7 : decode cX5_look 7 = .ok (.putfield 54, 3) := by decide +kernel
theorem dX5_look_10 : decode cX5_look 10 = .ok (.aload_n 0, 1) := by decide +kernel
theorem dX5_look_11 : decode cX5_look 11 = .ok (.iconst 0, 1) := by decide +kernel
theorem dX5_look_12 : decode cX5_look 12 = .ok (.putfield 47, 3) := by decide +kernel
theorem dX5_look_15 : decode cX5_look 15 = .ok (.iconst 0, 1) := by decide +kernel
theorem dX5_look_16 : decode cX5_look 16 = .ok (.istore 4, 2) := by decide +kernel
theorem dX5_look_18 : decode cX5_look 18 = .ok (.iload 4, 2) := by decide +kernel
theorem dX5_look_20 : decode cX5_look 20 = .ok (.bipush 6, 2) := by decide +kernel
theorem dX5_look_22 : decode cX5_look 22 = .ok (.if_icmp .ge 34, 3) := by decide +kernel
theorem dX5_look_25 : decode cX5_look 25 = .ok (.aload_n 0, 1) := by decide +kernel
theorem dX5_look_26 : decode cX5_look 26 = .ok (.getfield 18, 3) := by decide +kernel
theorem dX5_look_29 : decode cX5_look 29 = .ok (.iload 4, 2) := by decide +kernel
theorem dX5_look_31 : decode cX5_look 31 = .ok (.aload_n 1, 1) := by decide +kernel
theorem dX5_look_32 : decode cX5_look 32 = .ok (.iload 4, 2) := by decide +kernel
theorem dX5_look_34 : decode cX5_look 34 = .ok (.laload, 1) := by decide +kernel
theorem dX5_look_35 : decode cX5_look 35 = .ok (.lastore, 1) := by decide +kernel
theorem dX5_look_36 : decode cX5_look 36 = .ok (.aload_n 0, 1) := by decide +kernel
theorem dX5_look_37 : decode cX5_look 37 = .ok (.getfield 24, 3) := by decide +kernel
theorem dX5_look_40 : decode cX5_look 40 = .ok (.iload 4, 2) := by decide +kernel
theorem dX5_look_42 : decode cX5_look 42 = .ok (.aaload, 1) := by decide +kernel
theorem dX5_look_43 : decode cX5_look 43 = .ok (.aload_n 1, 1) := by decide +kernel
theorem dX5_look_44 : decode cX5_look 44 = .ok (.iload 4, 2) := by decide +kernel
theorem dX5_look_46 : decode cX5_look 46 = .ok (.laload, 1) := by decide +kernel
theorem dX5_look_47 : decode cX5_look 47 = .ok (.invokevirtual 57, 3) := by decide +kernel
theorem dX5_look_50 : decode cX5_look 50 = .ok (.iinc 4 1, 3) := by decide +kernel
theorem dX5_look_53 : decode cX5_look 53 = .ok (.goto (-35), 3) := by decide +kernel
theorem dX5_look_56 : decode cX5_look 56 = .ok (.aload_n 0, 1) := by decide +kernel
theorem dX5_look_57 : decode cX5_look 57 = .ok (.getfield 12, 3) := by decide +kernel
theorem dX5_look_60 : decode cX5_look 60 = .ok (.invokevirtual 61, 3) := by decide +kernel
theorem dX5_look_63 : decode cX5_look 63 = .ok (.iconst 0, 1) := by decide +kernel
theorem dX5_look_64 : decode cX5_look 64 = .ok (.istore 4, 2) := by decide +kernel
theorem dX5_look_66 : decode cX5_look 66 = .ok (.iload 4, 2) := by decide +kernel
theorem dX5_look_68 : decode cX5_look 68 = .ok (.sipush 300, 3) := by decide +kernel
theorem dX5_look_71 : decode cX5_look 71 = .ok (.if_icmp .ge 37, 3) := by decide +kernel
theorem dX5_look_74 : decode cX5_look 74 = .ok (.iload 4, 2) := by decide +kernel
theorem dX5_look_76 : decode cX5_look 76 = .ok (.aload_n 0, 1) := by decide +kernel
theorem dX5_look_77 : decode cX5_look 77 = .ok (.getfield 12, 3) := by decide +kernel
theorem dX5_look_80 : decode cX5_look 80 = .ok (.invokevirtual 43, 3) := by decide +kernel
theorem dX5_look_83 : decode cX5_look 83 = .ok (.if_icmp .ge 25, 3) := by decide +kernel
theorem dX5_look_86 : decode cX5_look 86 = .ok (.aload_n 0, 1) := by decide +kernel
theorem dX5_look_87 : decode cX5_look 87 = .ok (.iload 4, 2) := by decide +kernel
theorem dX5_look_89 : decode cX5_look 89 = .ok (.invokevirtual 64, 3) := by decide +kernel
theorem dX5_look_92 : decode cX5_look 92 = .ok (.istore 5, 2) := by decide +kernel
theorem dX5_look_94 : decode cX5_look 94 = .ok (.iload 5, 2) := by decide +kernel
theorem dX5_look_96 : decode cX5_look 96 = .ok (.ifCond .eq 6, 3) := by decide +kernel
theorem dX5_look_99 : decode cX5_look 99 = .ok (.iload 5, 2) := by decide +kernel
theorem dX5_look_101 : decode cX5_look 101 = .ok (.ireturn, 1) := by decide +kernel
theorem dX5_look_102 : decode cX5_look 102 = .ok (.iinc 4 1, 3) := by decide +kernel
theorem dX5_look_105 : decode cX5_look 105 = .ok (.goto (-39), 3) := by decide +kernel
theorem dX5_look_108 : decode cX5_look 108 = .ok (.iconst (-1), 1) := by decide +kernel
theorem dX5_look_109 : decode cX5_look 109 = .ok (.ireturn, 1) := by decide +kernel
theorem dX5_expand_0 : decode cX5_expand 0 = .ok (.aload_n 0, 1) := by decide +kernel
theorem dX5_expand_1 : decode cX5_expand 1 = .ok (.iload_n 1, 1) := by decide +kernel
theorem dX5_expand_2 : decode cX5_expand 2 = .ok (.invokevirtual 68, 3) := by decide +kernel
theorem dX5_expand_5 : decode cX5_expand 5 = .ok (.iconst 1, 1) := by decide +kernel
theorem dX5_expand_6 : decode cX5_expand 6 = .ok (.istore_n 2, 1) := by decide +kernel
theorem dX5_expand_7 : decode cX5_expand 7 = .ok (.iload_n 2, 1) := by decide +kernel
theorem dX5_expand_8 : decode cX5_expand 8 = .ok (.aload_n 0, 1) := by decide +kernel
theorem dX5_expand_9 : decode cX5_expand 9 = .ok (.getfield 51, 3) := by decide +kernel
theorem dX5_expand_12 : decode cX5_expand 12 = .ok (.if_icmp .ge 69, 3) := by decide +kernel
theorem dX5_expand_15 : decode cX5_expand 15 = .ok (.iload_n 2, 1) := by decide +kernel
theorem dX5_expand_16 : decode cX5_expand 16 = .ok (.aload_n 0, 1) := by decide +kernel
theorem dX5_expand_17 : decode cX5_expand 17 = .ok (.getfield 51, 3) := by decide +kernel
theorem dX5_expand_20 : decode cX5_expand 20 = .ok (.iconst (-1), 1) := by decide +kernel
theorem dX5_expand_21 : decode cX5_expand 21 = .ok (.ixor, 1) := by decide +kernel
theorem dX5_expand_22 : decode cX5_expand 22 = .ok (.iand, 1) := by decide +kernel
theorem dX5_expand_23 : decode cX5_expand 23 = .ok (.ifCond .ne 52, 3) := by decide +kernel
theorem dX5_expand_26 : decode cX5_expand 26 = .ok (.iload_n 2, 1) := by decide +kernel
theorem dX5_expand_27 : decode cX5_expand 27 = .ok (.aload_n 0, 1) := by decide +kernel
theorem dX5_expand_28 : decode cX5_expand 28 = .ok (.getfield 51, 3) := by decide +kernel
theorem dX5_expand_31 : decode cX5_expand 31 = .ok (.iload_n 2, 1) := by decide +kernel
theorem dX5_expand_32 : decode cX5_expand 32 = .ok (.iconst (-1), 1) := by decide +kernel
theorem dX5_expand_33 : decode cX5_expand 33 = .ok (.ixor, 1) := by decide +kernel
theorem dX5_expand_34 : decode cX5_expand 34 = .ok (.iand, 1) := by decide +kernel
theorem dX5_expand_35 : decode cX5_expand 35 = .ok (.if_icmp .ge 40, 3) := by decide +kernel
theorem dX5_expand_38 : decode cX5_expand 38 = .ok (.aload_n 0, 1) := by decide +kernel
theorem dX5_expand_39 : decode cX5_expand 39 = .ok (.iload_n 1, 1) := by decide +kernel
theorem dX5_expand_40 : decode cX5_expand 40 = .ok (.iload_n 2, 1) := by decide +kernel
theorem dX5_expand_41 : decode cX5_expand 41 = .ok (.invokevirtual 72, 3) := by decide +kernel
theorem dX5_expand_44 : decode cX5_expand 44 = .ok (.iconst 0, 1) := by decide +kernel
theorem dX5_expand_45 : decode cX5_expand 45 = .ok (.istore_n 3, 1) := by decide +kernel
theorem dX5_expand_46 : decode cX5_expand 46 = .ok (.iload_n 3, 1) := by decide +kernel
theorem dX5_expand_47 : decode cX5_expand 47 = .ok (.bipush 6, 2) := by decide +kernel
theorem dX5_expand_49 : decode cX5_expand 49 = .ok (.if_icmp .ge 26, 3) := by decide +kernel
theorem dX5_expand_52 : decode cX5_expand 52 = .ok (.aload_n 0, 1) := by decide +kernel
theorem dX5_expand_53 : decode cX5_expand 53 = .ok (.iload_n 1, 1) := by decide +kernel
theorem dX5_expand_54 : decode cX5_expand 54 = .ok (.iload_n 2, 1) := by decide +kernel
theorem dX5_expand_55 : decode cX5_expand 55 = .ok (.iload_n 3, 1) := by decide +kernel
theorem dX5_expand_56 : decode cX5_expand 56 = .ok (.invokevirtual 76, 3) := by decide +kernel
theorem dX5_expand_59 : decode cX5_expand 59 = .ok (.istore 4, 2) := by decide +kernel
theorem dX5_expand_61 : decode cX5_expand 61 = .ok (.iload 4, 2) := by decide +kernel
theorem dX5_expand_63 : decode cX5_expand 63 = .ok (.ifCond .eq 6, 3) := by decide +kernel
theorem dX5_expand_66 : decode cX5_expand 66 = .ok (.iload 4, 2) := by decide +kernel
theorem dX5_expand_68 : decode cX5_expand 68 = .ok (.ireturn, 1) := by decide +kernel
theorem dX5_expand_69 : decode cX5_expand 69 = .ok (.iinc 3 1, 3) := by decide +kernel
theorem dX5_expand_72 : decode cX5_expand 72 = .ok (.goto (-26), 3) := by decide +kernel
theorem dX5_expand_75 : decode cX5_expand 75 = .ok (.iinc 2 1, 3) := by decide +kernel
theorem dX5_expand_78 : decode cX5_expand 78 = .ok (.goto (-71), 3) := by decide +kernel
theorem dX5_expand_81 : decode cX5_expand 81 = .ok (.iconst 0, 1) := by decide +kernel
theorem dX5_expand_82 : decode cX5_expand 82 = .ok (.ireturn, 1) := by decide +kernel
theorem dX5_tryRuns_0 : decode cX5_tryRuns 0 = .ok (.aload_n 0, 1) := by decide +kernel
theorem dX5_tryRuns_1 : decode cX5_tryRuns 1 = .ok (.iload_n 2, 1) := by decide +kernel
theorem dX5_tryRuns_2 : decode cX5_tryRuns 2 = .ok (.iload_n 3, 1) := by decide +kernel
theorem dX5_tryRuns_3 : decode cX5_tryRuns 3 = .ok (.invokevirtual 80, 3) := by decide +kernel
theorem dX5_tryRuns_6 : decode cX5_tryRuns 6 = .ok (.istore 4, 2) := by decide +kernel
theorem dX5_tryRuns_8 : decode cX5_tryRuns 8 = .ok (.iload_n 3, 1) := by decide +kernel
theorem dX5_tryRuns_9 : decode cX5_tryRuns 9 = .ok (.iconst 2, 1) := by decide +kernel
theorem dX5_tryRuns_10 : decode cX5_tryRuns 10 = .ok (.idiv, 1) := by decide +kernel
theorem dX5_tryRuns_11 : decode cX5_tryRuns 11 = .ok (.istore 5, 2) := by decide +kernel
theorem dX5_tryRuns_13 : decode cX5_tryRuns 13 = .ok (.iconst 1, 1) := by decide +kernel
theorem dX5_tryRuns_14 : decode cX5_tryRuns 14 = .ok (.istore 6, 2) := by decide +kernel
theorem dX5_tryRuns_16 : decode cX5_tryRuns 16 = .ok (.iload 6, 2) := by decide +kernel
theorem dX5_tryRuns_18 : decode cX5_tryRuns 18 = .ok (.iload 4, 2) := by decide +kernel
theorem dX5_tryRuns_20 : decode cX5_tryRuns 20 = .ok (.if_icmp .gt 116, 3) := by decide +kernel
theorem dX5_tryRuns_23 : decode cX5_tryRuns 23 = .ok (.iload_n 3, 1) := by decide +kernel
theorem dX5_tryRuns_24 : decode cX5_tryRuns 24 = .ok (.iconst 2, 1) := by decide +kernel
theorem dX5_tryRuns_25 : decode cX5_tryRuns 25 = .ok (.irem, 1) := by decide +kernel
theorem dX5_tryRuns_26 : decode cX5_tryRuns 26 = .ok (.ifCond .ne 8, 3) := by decide +kernel
theorem dX5_tryRuns_29 : decode cX5_tryRuns 29 = .ok (.iload 6, 2) := by decide +kernel
theorem dX5_tryRuns_31 : decode cX5_tryRuns 31 = .ok (.goto 6, 3) := by decide +kernel
theorem dX5_tryRuns_34 : decode cX5_tryRuns 34 = .ok (.iload 6, 2) := by decide +kernel
theorem dX5_tryRuns_36 : decode cX5_tryRuns 36 = .ok (.ineg, 1) := by decide +kernel
theorem dX5_tryRuns_37 : decode cX5_tryRuns 37 = .ok (.istore 7, 2) := by decide +kernel
theorem dX5_tryRuns_39 : decode cX5_tryRuns 39 = .ok (.sipush 1000, 3) := by decide +kernel
theorem dX5_tryRuns_42 : decode cX5_tryRuns 42 = .ok (.iload_n 2, 1) := by decide +kernel
theorem dX5_tryRuns_43 : decode cX5_tryRuns 43 = .ok (.imul, 1) := by decide +kernel
theorem dX5_tryRuns_44 : decode cX5_tryRuns 44 = .ok (.bipush 100, 2) := by decide +kernel
theorem dX5_tryRuns_46 : decode cX5_tryRuns 46 = .ok (.iload_n 3, 1) := by decide +kernel
theorem dX5_tryRuns_47 : decode cX5_tryRuns 47 = .ok (.imul, 1) := by decide +kernel
theorem dX5_tryRuns_48 : decode cX5_tryRuns 48 = .ok (.iadd, 1) := by decide +kernel
theorem dX5_tryRuns_49 : decode cX5_tryRuns 49 = .ok (.iload 6, 2) := by decide +kernel
theorem dX5_tryRuns_51 : decode cX5_tryRuns 51 = .ok (.iadd, 1) := by decide +kernel
theorem dX5_tryRuns_52 : decode cX5_tryRuns 52 = .ok (.istore 8, 2) := by decide +kernel
theorem dX5_tryRuns_54 : decode cX5_tryRuns 54 = .ok (.aload_n 0, 1) := by decide +kernel
theorem dX5_tryRuns_55 : decode cX5_tryRuns 55 = .ok (.getfield 29, 3) := by decide +kernel
theorem dX5_tryRuns_58 : decode cX5_tryRuns 58 = .ok (.aload_n 0, 1) := by decide +kernel
theorem dX5_tryRuns_59 : decode cX5_tryRuns 59 = .ok (.getfield 33, 3) := by decide +kernel
theorem dX5_tryRuns_62 : decode cX5_tryRuns 62 = .ok (.iload 5, 2) := by decide +kernel
theorem dX5_tryRuns_64 : decode cX5_tryRuns 64 = .ok (.iload 7, 2) := by decide +kernel
theorem dX5_tryRuns_66 : decode cX5_tryRuns 66 = .ok (.invokevirtual 84, 3) := by decide +kernel
theorem dX5_tryRuns_69 : decode cX5_tryRuns 69 = .ok (.ifCond .eq 11, 3) := by decide +kernel
theorem dX5_tryRuns_72 : decode cX5_tryRuns 72 = .ok (.aload_n 0, 1) := by decide +kernel
theorem dX5_tryRuns_73 : decode cX5_tryRuns 73 = .ok (.iload_n 1, 1) := by decide +kernel
theorem dX5_tryRuns_74 : decode cX5_tryRuns 74 = .ok (.iload 8, 2) := by decide +kernel
theorem dX5_tryRuns_76 : decode cX5_tryRuns 76 = .ok (.invokevirtual 88, 3) := by decide +kernel
theorem dX5_tryRuns_79 : decode cX5_tryRuns 79 = .ok (.ireturn, 1) := by decide +kernel
theorem dX5_tryRuns_80 : decode cX5_tryRuns 80 = .ok (.aload_n 0, 1) := by decide +kernel
theorem dX5_tryRuns_81 : decode cX5_tryRuns 81 = .ok (.getfield 12, 3) := by decide +kernel
theorem dX5_tryRuns_84 : decode cX5_tryRuns 84 = .ok (.iload_n 1, 1) := by decide +kernel
theorem dX5_tryRuns_85 : decode cX5_tryRuns 85 = .ok (.iload_n 2, 1) := by decide +kernel
theorem dX5_tryRuns_86 : decode cX5_tryRuns 86 = .ok (.iload 5, 2) := by decide +kernel
theorem dX5_tryRuns_88 : decode cX5_tryRuns 88 = .ok (.iload 7, 2) := by decide +kernel
theorem dX5_tryRuns_90 : decode cX5_tryRuns 90 = .ok (.invokevirtual 91, 3) := by decide +kernel
theorem dX5_tryRuns_93 : decode cX5_tryRuns 93 = .ok (.aload_n 0, 1) := by decide +kernel
theorem dX5_tryRuns_94 : decode cX5_tryRuns 94 = .ok (.getfield 12, 3) := by decide +kernel
theorem dX5_tryRuns_97 : decode cX5_tryRuns 97 = .ok (.invokevirtual 95, 3) := by decide +kernel
theorem dX5_tryRuns_100 : decode cX5_tryRuns 100 = .ok (.ifCond .ne 30, 3) := by decide +kernel
theorem dX5_tryRuns_103 : decode cX5_tryRuns 103 = .ok (.aload_n 0, 1) := by decide +kernel
theorem dX5_tryRuns_104 : decode cX5_tryRuns 104 = .ok (.getfield 12, 3) := by decide +kernel
theorem dX5_tryRuns_107 : decode cX5_tryRuns 107 = .ok (.invokevirtual 43, 3) := by decide +kernel
theorem dX5_tryRuns_110 : decode cX5_tryRuns 110 = .ok (.aload_n 0, 1) := by decide +kernel
theorem dX5_tryRuns_111 : decode cX5_tryRuns 111 = .ok (.getfield 54, 3) := by decide +kernel
theorem dX5_tryRuns_114 : decode cX5_tryRuns 114 = .ok (.if_icmp .lt 6, 3) := by decide +kernel
theorem dX5_tryRuns_117 : decode cX5_tryRuns 117 = .ok (.bipush (-2), 2) := by decide +kernel
theorem dX5_tryRuns_119 : decode cX5_tryRuns 119 = .ok (.ireturn, 1) := by decide +kernel
theorem dX5_tryRuns_120 : decode cX5_tryRuns 120 = .ok (.aload_n 0, 1) := by decide +kernel
theorem dX5_tryRuns_121 : decode cX5_tryRuns 121 = .ok (.getfield 12, 3) := by decide +kernel
theorem dX5_tryRuns_124 : decode cX5_tryRuns 124 = .ok (.iload_n 1, 1) := by decide +kernel
theorem dX5_tryRuns_125 : decode cX5_tryRuns 125 = .ok (.iload 8, 2) := by decide +kernel
theorem dX5_tryRuns_127 : decode cX5_tryRuns 127 = .ok (.invokevirtual 99, 3) := by decide +kernel
theorem dX5_tryRuns_130 : decode cX5_tryRuns 130 = .ok (.iinc 6 1, 3) := by decide +kernel
theorem dX5_tryRuns_133 : decode cX5_tryRuns 133 = .ok (.goto (-117), 3) := by decide +kernel
theorem dX5_tryRuns_136 : decode cX5_tryRuns 136 = .ok (.iconst 0, 1) := by decide +kernel
theorem dX5_tryRuns_137 : decode cX5_tryRuns 137 = .ok (.ireturn, 1) := by decide +kernel
theorem dX5_writePlan_0 : decode cX5_writePlan 0 = .ok (.aload_n 0, 1) := by decide +kernel
theorem dX5_writePlan_1 : decode cX5_writePlan 1 = .ok (.getfield 12, 3) := by decide +kernel
theorem dX5_writePlan_4 : decode cX5_writePlan 4 = .ok (.iload_n 1, 1) := by decide +kernel
theorem dX5_writePlan_5 : decode cX5_writePlan 5 = .ok (.invokevirtual 102, 3) := by decide +kernel
theorem dX5_writePlan_8 : decode cX5_writePlan 8 = .ok (.iconst 1, 1) := by decide +kernel
theorem dX5_writePlan_9 : decode cX5_writePlan 9 = .ok (.iadd, 1) := by decide +kernel
theorem dX5_writePlan_10 : decode cX5_writePlan 10 = .ok (.istore_n 3, 1) := by decide +kernel
theorem dX5_writePlan_11 : decode cX5_writePlan 11 = .ok (.iload_n 3, 1) := by decide +kernel
theorem dX5_writePlan_12 : decode cX5_writePlan 12 = .ok (.sipush 300, 3) := by decide +kernel
theorem dX5_writePlan_15 : decode cX5_writePlan 15 = .ok (.if_icmp .le 6, 3) := by decide +kernel
theorem dX5_writePlan_18 : decode cX5_writePlan 18 = .ok (.bipush (-2), 2) := by decide +kernel
theorem dX5_writePlan_20 : decode cX5_writePlan 20 = .ok (.ireturn, 1) := by decide +kernel
theorem dX5_writePlan_21 : decode cX5_writePlan 21 = .ok (.aload_n 0, 1) := by decide +kernel
theorem dX5_writePlan_22 : decode cX5_writePlan 22 = .ok (.getfield 40, 3) := by decide +kernel
theorem dX5_writePlan_25 : decode cX5_writePlan 25 = .ok (.iload_n 3, 1) := by decide +kernel
theorem dX5_writePlan_26 : decode cX5_writePlan 26 = .ok (.iconst 1, 1) := by decide +kernel
theorem dX5_writePlan_27 : decode cX5_writePlan 27 = .ok (.isub, 1) := by decide +kernel
theorem dX5_writePlan_28 : decode cX5_writePlan 28 = .ok (.iload_n 2, 1) := by decide +kernel
theorem dX5_writePlan_29 : decode cX5_writePlan 29 = .ok (.iastore, 1) := by decide +kernel
theorem dX5_writePlan_30 : decode cX5_writePlan 30 = .ok (.iload_n 1, 1) := by decide +kernel
theorem dX5_writePlan_31 : decode cX5_writePlan 31 = .ok (.istore 4, 2) := by decide +kernel
theorem dX5_writePlan_33 : decode cX5_writePlan 33 = .ok (.iload_n 3, 1) := by decide +kernel
theorem dX5_writePlan_34 : decode cX5_writePlan 34 = .ok (.iconst 2, 1) := by decide +kernel
theorem dX5_writePlan_35 : decode cX5_writePlan 35 = .ok (.isub, 1) := by decide +kernel
theorem dX5_writePlan_36 : decode cX5_writePlan 36 = .ok (.istore 5, 2) := by decide +kernel
theorem dX5_writePlan_38 : decode cX5_writePlan 38 = .ok (.iload 5, 2) := by decide +kernel
theorem dX5_writePlan_40 : decode cX5_writePlan 40 = .ok (.ifCond .lt 36, 3) := by decide +kernel
theorem dX5_writePlan_43 : decode cX5_writePlan 43 = .ok (.aload_n 0, 1) := by decide +kernel
theorem dX5_writePlan_44 : decode cX5_writePlan 44 = .ok (.getfield 40, 3) := by decide +kernel
theorem dX5_writePlan_47 : decode cX5_writePlan 47 = .ok (.iload 5, 2) := by decide +kernel
theorem dX5_writePlan_49 : decode cX5_writePlan 49 = .ok (.aload_n 0, 1) := by decide +kernel
theorem dX5_writePlan_50 : decode cX5_writePlan 50 = .ok (.getfield 12, 3) := by decide +kernel
theorem dX5_writePlan_53 : decode cX5_writePlan 53 = .ok (.iload 4, 2) := by decide +kernel
theorem dX5_writePlan_55 : decode cX5_writePlan 55 = .ok (.invokevirtual 105, 3) := by decide +kernel
theorem dX5_writePlan_58 : decode cX5_writePlan 58 = .ok (.iastore, 1) := by decide +kernel
theorem dX5_writePlan_59 : decode cX5_writePlan 59 = .ok (.aload_n 0, 1) := by decide +kernel
theorem dX5_writePlan_60 : decode cX5_writePlan 60 = .ok (.getfield 12, 3) := by decide +kernel
theorem dX5_writePlan_63 : decode cX5_writePlan 63 = .ok (.iload 4, 2) := by decide +kernel
theorem dX5_writePlan_65 : decode cX5_writePlan 65 = .ok (.invokevirtual 108, 3) := by decide +kernel
theorem dX5_writePlan_68 : decode cX5_writePlan 68 = .ok (.istore 4, 2) := by decide +kernel
theorem dX5_writePlan_70 : decode cX5_writePlan 70 = .ok (.iinc 5 (-1), 3) := by decide +kernel
theorem dX5_writePlan_73 : decode cX5_writePlan 73 = .ok (.goto (-35), 3) := by decide +kernel
theorem dX5_writePlan_76 : decode cX5_writePlan 76 = .ok (.aload_n 0, 1) := by decide +kernel
theorem dX5_writePlan_77 : decode cX5_writePlan 77 = .ok (.iload_n 3, 1) := by decide +kernel
theorem dX5_writePlan_78 : decode cX5_writePlan 78 = .ok (.putfield 47, 3) := by decide +kernel
theorem dX5_writePlan_81 : decode cX5_writePlan 81 = .ok (.iload_n 3, 1) := by decide +kernel
theorem dX5_writePlan_82 : decode cX5_writePlan 82 = .ok (.ireturn, 1) := by decide +kernel
theorem dX5_measureBoxes_0 : decode cX5_measureBoxes 0 = .ok (.aload_n 0, 1) := by decide +kernel
theorem dX5_measureBoxes_1 : decode cX5_measureBoxes 1 = .ok (.getfield 29, 3) := by decide +kernel
theorem dX5_measureBoxes_4 : decode cX5_measureBoxes 4 = .ok (.invokevirtual 111, 3) := by decide +kernel
theorem dX5_measureBoxes_7 : decode cX5_measureBoxes 7 = .ok (.aload_n 0, 1) := by decide +kernel
theorem dX5_measureBoxes_8 : decode cX5_measureBoxes 8 = .ok (.getfield 33, 3) := by decide +kernel
theorem dX5_measureBoxes_11 : decode cX5_measureBoxes 11 = .ok (.invokevirtual 111, 3) := by decide +kernel
theorem dX5_measureBoxes_14 : decode cX5_measureBoxes 14 = .ok (.iconst 0, 1) := by decide +kernel
theorem dX5_measureBoxes_15 : decode cX5_measureBoxes 15 = .ok (.istore_n 3, 1) := by decide +kernel
theorem dX5_measureBoxes_16 : decode cX5_measureBoxes 16 = .ok (.iload_n 3, 1) := by decide +kernel
theorem dX5_measureBoxes_17 : decode cX5_measureBoxes 17 = .ok (.bipush 6, 2) := by decide +kernel
theorem dX5_measureBoxes_19 : decode cX5_measureBoxes 19 = .ok (.if_icmp .ge 68, 3) := by decide +kernel
theorem dX5_measureBoxes_22 : decode cX5_measureBoxes 22 = .ok (.aload_n 0, 1) := by decide +kernel
theorem dX5_measureBoxes_23 : decode cX5_measureBoxes 23 = .ok (.getfield 51, 3) := by decide +kernel
theorem dX5_measureBoxes_26 : decode cX5_measureBoxes 26 = .ok (.iload_n 3, 1) := by decide +kernel
theorem dX5_measureBoxes_27 : decode cX5_measureBoxes 27 = .ok (.ishr, 1) := by decide +kernel
theorem dX5_measureBoxes_28 : decode cX5_measureBoxes 28 = .ok (.iconst 1, 1) := by decide +kernel
theorem dX5_measureBoxes_29 : decode cX5_measureBoxes 29 = .ok (.iand, 1) := by decide +kernel
theorem dX5_measureBoxes_30 : decode cX5_measureBoxes 30 = .ok (.ifCond .eq 51, 3) := by decide +kernel
theorem dX5_measureBoxes_33 : decode cX5_measureBoxes 33 = .ok (.iload_n 2, 1) := by decide +kernel
theorem dX5_measureBoxes_34 : decode cX5_measureBoxes 34 = .ok (.iload_n 3, 1) := by decide +kernel
theorem dX5_measureBoxes_35 : decode cX5_measureBoxes 35 = .ok (.ishr, 1) := by decide +kernel
theorem dX5_measureBoxes_36 : decode cX5_measureBoxes 36 = .ok (.iconst 1, 1) := by decide +kernel
theorem dX5_measureBoxes_37 : decode cX5_measureBoxes 37 = .ok (.iand, 1) := by decide +kernel
theorem dX5_measureBoxes_38 : decode cX5_measureBoxes 38 = .ok (.ifCond .eq 10, 3) := by decide +kernel
theorem dX5_measureBoxes_41 : decode cX5_measureBoxes 41 = .ok (.aload_n 0, 1) := by decide +kernel
theorem dX5_measureBoxes_42 : decode cX5_measureBoxes 42 = .ok (.getfield 29, 3) := by decide +kernel
theorem dX5_measureBoxes_45 : decode cX5_measureBoxes 45 = .ok (.goto 7, 3) := by decide +kernel
theorem dX5_measureBoxes_48 : decode cX5_measureBoxes 48 = .ok (.aload_n 0, 1) := by decide +kernel
theorem dX5_measureBoxes_49 : decode cX5_measureBoxes 49 = .ok (.getfield 33, 3) := by decide +kernel
theorem dX5_measureBoxes_52 : decode cX5_measureBoxes 52 = .ok (.astore 4, 2) := by decide +kernel
theorem dX5_measureBoxes_54 : decode cX5_measureBoxes 54 = .ok (.aload 4, 2) := by decide +kernel
theorem dX5_measureBoxes_56 : decode cX5_measureBoxes 56 = .ok (.aload_n 0, 1) := by decide +kernel
theorem dX5_measureBoxes_57 : decode cX5_measureBoxes 57 = .ok (.getfield 24, 3) := by decide +kernel
theorem dX5_measureBoxes_60 : decode cX5_measureBoxes 60 = .ok (.iload_n 3, 1) := by decide +kernel
theorem dX5_measureBoxes_61 : decode cX5_measureBoxes 61 = .ok (.aaload, 1) := by decide +kernel
theorem dX5_measureBoxes_62 : decode cX5_measureBoxes 62 = .ok (.aload_n 0, 1) := by decide +kernel
theorem dX5_measureBoxes_63 : decode cX5_measureBoxes 63 = .ok (.getfield 12, 3) := by decide +kernel
theorem dX5_measureBoxes_66 : decode cX5_measureBoxes 66 = .ok (.invokevirtual 114, 3) := by decide +kernel
theorem dX5_measureBoxes_69 : decode cX5_measureBoxes 69 = .ok (.aload_n 0, 1) := by decide +kernel
theorem dX5_measureBoxes_70 : decode cX5_measureBoxes 70 = .ok (.getfield 12, 3) := by decide +kernel
theorem dX5_measureBoxes_73 : decode cX5_measureBoxes 73 = .ok (.iload_n 1, 1) := by decide +kernel
theorem dX5_measureBoxes_74 : decode cX5_measureBoxes 74 = .ok (.iload_n 3, 1) := by decide +kernel
theorem dX5_measureBoxes_75 : decode cX5_measureBoxes 75 = .ok (.invokevirtual 118, 3) := by decide +kernel
theorem dX5_measureBoxes_78 : decode cX5_measureBoxes 78 = .ok (.invokevirtual 121, 3) := by decide +kernel
theorem dX5_measureBoxes_81 : decode cX5_measureBoxes 81 = .ok (.iinc 3 1, 3) := by decide +kernel
theorem dX5_measureBoxes_84 : decode cX5_measureBoxes 84 = .ok (.goto (-68), 3) := by decide +kernel
theorem dX5_measureBoxes_87 : decode cX5_measureBoxes 87 = .ok (.return_, 1) := by decide +kernel
theorem dX5_measureRoom_0 : decode cX5_measureRoom 0 = .ok (.iconst 0, 1) := by decide +kernel
theorem dX5_measureRoom_1 : decode cX5_measureRoom 1 = .ok (.istore_n 2, 1) := by decide +kernel
theorem dX5_measureRoom_2 : decode cX5_measureRoom 2 = .ok (.iload_n 2, 1) := by decide +kernel
theorem dX5_measureRoom_3 : decode cX5_measureRoom 3 = .ok (.bipush 6, 2) := by decide +kernel
theorem dX5_measureRoom_5 : decode cX5_measureRoom 5 = .ok (.if_icmp .ge 100, 3) := by decide +kernel
theorem dX5_measureRoom_8 : decode cX5_measureRoom 8 = .ok (.iload_n 2, 1) := by decide +kernel
theorem dX5_measureRoom_9 : decode cX5_measureRoom 9 = .ok (.iconst 1, 1) := by decide +kernel
theorem dX5_measureRoom_10 : decode cX5_measureRoom 10 = .ok (.iadd, 1) := by decide +kernel
theorem dX5_measureRoom_11 : decode cX5_measureRoom 11 = .ok (.istore_n 3, 1) := by decide +kernel
theorem dX5_measureRoom_12 : decode cX5_measureRoom 12 = .ok (.iload_n 3, 1) := by decide +kernel
theorem dX5_measureRoom_13 : decode cX5_measureRoom 13 = .ok (.bipush 6, 2) := by decide +kernel
theorem dX5_measureRoom_15 : decode cX5_measureRoom 15 = .ok (.if_icmp .ge 84, 3) := by decide +kernel
theorem dX5_measureRoom_18 : decode cX5_measureRoom 18 = .ok (.aload_n 0, 1) := by decide +kernel
theorem dX5_measureRoom_19 : decode cX5_measureRoom 19 = .ok (.getfield 51, 3) := by decide +kernel
theorem dX5_measureRoom_22 : decode cX5_measureRoom 22 = .ok (.iload_n 2, 1) := by decide +kernel
theorem dX5_measureRoom_23 : decode cX5_measureRoom 23 = .ok (.ishr, 1) := by decide +kernel
theorem dX5_measureRoom_24 : decode cX5_measureRoom 24 = .ok (.aload_n 0, 1) := by decide +kernel
theorem dX5_measureRoom_25 : decode cX5_measureRoom 25 = .ok (.getfield 51, 3) := by decide +kernel
theorem dX5_measureRoom_28 : decode cX5_measureRoom 28 = .ok (.iload_n 3, 1) := by decide +kernel
theorem dX5_measureRoom_29 : decode cX5_measureRoom 29 = .ok (.ishr, 1) := by decide +kernel
theorem dX5_measureRoom_30 : decode cX5_measureRoom 30 = .ok (.iand, 1) := by decide +kernel
theorem dX5_measureRoom_31 : decode cX5_measureRoom 31 = .ok (.iconst 1, 1) := by decide +kernel
theorem dX5_measureRoom_32 : decode cX5_measureRoom 32 = .ok (.iand, 1) := by decide +kernel
theorem dX5_measureRoom_33 : decode cX5_measureRoom 33 = .ok (.ifCond .eq 60, 3) := by decide +kernel
theorem dX5_measureRoom_36 : decode cX5_measureRoom 36 = .ok (.iconst 0, 1) := by decide +kernel
theorem dX5_measureRoom_37 : decode cX5_measureRoom 37 = .ok (.istore 4, 2) := by decide +kernel
theorem dX5_measureRoom_39 : decode cX5_measureRoom 39 = .ok (.iload 4, 2) := by decide +kernel
theorem dX5_measureRoom_41 : decode cX5_measureRoom 41 = .ok (.bipush 6, 2) := by decide +kernel
theorem dX5_measureRoom_43 : decode cX5_measureRoom 43 = .ok (.if_icmp .ge 50, 3) := by decide +kernel
theorem dX5_measureRoom_46 : decode cX5_measureRoom 46 = .ok (.aload_n 0, 1) := by decide +kernel
theorem dX5_measureRoom_47 : decode cX5_measureRoom 47 = .ok (.iload_n 1, 1) := by decide +kernel
theorem dX5_measureRoom_48 : decode cX5_measureRoom 48 = .ok (.iload_n 2, 1) := by decide +kernel
theorem dX5_measureRoom_49 : decode cX5_measureRoom 49 = .ok (.iload_n 3, 1) := by decide +kernel
theorem dX5_measureRoom_50 : decode cX5_measureRoom 50 = .ok (.iload 4, 2) := by decide +kernel
theorem dX5_measureRoom_52 : decode cX5_measureRoom 52 = .ok (.invokevirtual 125, 3) := by decide +kernel
theorem dX5_measureRoom_55 : decode cX5_measureRoom 55 = .ok (.istore 5, 2) := by decide +kernel
theorem dX5_measureRoom_57 : decode cX5_measureRoom 57 = .ok (.aload_n 0, 1) := by decide +kernel
theorem dX5_measureRoom_58 : decode cX5_measureRoom 58 = .ok (.getfield 36, 3) := by decide +kernel
theorem dX5_measureRoom_61 : decode cX5_measureRoom 61 = .ok (.iload 4, 2) := by decide +kernel
theorem dX5_measureRoom_63 : decode cX5_measureRoom 63 = .ok (.iload_n 2, 1) := by decide +kernel
theorem dX5_measureRoom_64 : decode cX5_measureRoom 64 = .ok (.iload_n 3, 1) := by decide +kernel
theorem dX5_measureRoom_65 : decode cX5_measureRoom 65 = .ok (.invokestatic 129, 3) := by decide +kernel
theorem dX5_measureRoom_68 : decode cX5_measureRoom 68 = .ok (.iload 5, 2) := by decide +kernel
theorem dX5_measureRoom_70 : decode cX5_measureRoom 70 = .ok (.iastore, 1) := by decide +kernel
theorem dX5_measureRoom_71 : decode cX5_measureRoom 71 = .ok (.aload_n 0, 1) := by decide +kernel
theorem dX5_measureRoom_72 : decode cX5_measureRoom 72 = .ok (.getfield 36, 3) := by decide +kernel
theorem dX5_measureRoom_75 : decode cX5_measureRoom 75 = .ok (.iload 4, 2) := by decide +kernel
theorem dX5_measureRoom_77 : decode cX5_measureRoom 77 = .ok (.iconst 1, 1) := by decide +kernel
theorem dX5_measureRoom_78 : decode cX5_measureRoom 78 = .ok (.ixor, 1) := by decide +kernel
theorem dX5_measureRoom_79 : decode cX5_measureRoom 79 = .ok (.iload_n 3, 1) := by decide +kernel
theorem dX5_measureRoom_80 : decode cX5_measureRoom 80 = .ok (.iload_n 2, 1) := by decide +kernel
theorem dX5_measureRoom_81 : decode cX5_measureRoom 81 = .ok (.invokestatic 129, 3) := by decide +kernel
theorem dX5_measureRoom_84 : decode cX5_measureRoom 84 = .ok (.iload 5, 2) := by decide +kernel
theorem dX5_measureRoom_86 : decode cX5_measureRoom 86 = .ok (.iastore, 1) := by decide +kernel
