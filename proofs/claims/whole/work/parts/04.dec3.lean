theorem dX7_touch_42 : decode cX7_touch 42 = .ok (.imul, 1) := by decide +kernel
theorem dX7_touch_43 : decode cX7_touch 43 = .ok (.iadd, 1) := by decide +kernel
theorem dX7_touch_44 : decode cX7_touch 44 = .ok (.iconst 1, 1) := by decide +kernel
theorem dX7_touch_45 : decode cX7_touch 45 = .ok (.if_icmp .ne 7, 3) := by decide +kernel
theorem dX7_touch_48 : decode cX7_touch 48 = .ok (.iconst 1, 1) := by decide +kernel
theorem dX7_touch_49 : decode cX7_touch 49 = .ok (.goto 4, 3) := by decide +kernel
theorem dX7_touch_52 : decode cX7_touch 52 = .ok (.iconst 0, 1) := by decide +kernel
theorem dX7_touch_53 : decode cX7_touch 53 = .ok (.ireturn, 1) := by decide +kernel
theorem dX7_isMade_0 : decode cX7_isMade 0 = .ok (.lload_n 0, 1) := by decide +kernel
theorem dX7_isMade_1 : decode cX7_isMade 1 = .ok (.lconst 0, 1) := by decide +kernel
theorem dX7_isMade_2 : decode cX7_isMade 2 = .ok (.lcmp, 1) := by decide +kernel
theorem dX7_isMade_3 : decode cX7_isMade 3 = .ok (.ifCond .ne 5, 3) := by decide +kernel
theorem dX7_isMade_6 : decode cX7_isMade 6 = .ok (.iconst 0, 1) := by decide +kernel
theorem dX7_isMade_7 : decode cX7_isMade 7 = .ok (.ireturn, 1) := by decide +kernel
theorem dX7_isMade_8 : decode cX7_isMade 8 = .ok (.lload_n 0, 1) := by decide +kernel
theorem dX7_isMade_9 : decode cX7_isMade 9 = .ok (.lload_n 0, 1) := by decide +kernel
theorem dX7_isMade_10 : decode cX7_isMade 10 = .ok (.lneg, 1) := by decide +kernel
theorem dX7_isMade_11 : decode cX7_isMade 11 = .ok (.land, 1) := by decide +kernel
theorem dX7_isMade_12 : decode cX7_isMade 12 = .ok (.lstore_n 2, 1) := by decide +kernel
theorem dX7_isMade_13 : decode cX7_isMade 13 = .ok (.iconst 1, 1) := by decide +kernel
theorem dX7_isMade_14 : decode cX7_isMade 14 = .ok (.istore 4, 2) := by decide +kernel
theorem dX7_isMade_16 : decode cX7_isMade 16 = .ok (.iload 4, 2) := by decide +kernel
theorem dX7_isMade_18 : decode cX7_isMade 18 = .ok (.ifCond .eq 122, 3) := by decide +kernel
theorem dX7_isMade_21 : decode cX7_isMade 21 = .ok (.iconst 0, 1) := by decide +kernel
theorem dX7_isMade_22 : decode cX7_isMade 22 = .ok (.istore 4, 2) := by decide +kernel
theorem dX7_isMade_24 : decode cX7_isMade 24 = .ok (.iconst 0, 1) := by decide +kernel
theorem dX7_isMade_25 : decode cX7_isMade 25 = .ok (.istore 5, 2) := by decide +kernel
theorem dX7_isMade_27 : decode cX7_isMade 27 = .ok (.iload 5, 2) := by decide +kernel
theorem dX7_isMade_29 : decode cX7_isMade 29 = .ok (.bipush 64, 2) := by decide +kernel
theorem dX7_isMade_31 : decode cX7_isMade 31 = .ok (.if_icmp .ge 106, 3) := by decide +kernel
theorem dX7_isMade_34 : decode cX7_isMade 34 = .ok (.lload_n 0, 1) := by decide +kernel
theorem dX7_isMade_35 : decode cX7_isMade 35 = .ok (.iload 5, 2) := by decide +kernel
theorem dX7_isMade_37 : decode cX7_isMade 37 = .ok (.invokestatic 82, 3) := by decide +kernel
theorem dX7_isMade_40 : decode cX7_isMade 40 = .ok (.ifCond .eq 91, 3) := by decide +kernel
theorem dX7_isMade_43 : decode cX7_isMade 43 = .ok (.lload_n 2, 1) := by decide +kernel
theorem dX7_isMade_44 : decode cX7_isMade 44 = .ok (.iload 5, 2) := by decide +kernel
theorem dX7_isMade_46 : decode cX7_isMade 46 = .ok (.invokestatic 82, 3) := by decide +kernel
theorem dX7_isMade_49 : decode cX7_isMade 49 = .ok (.ifCond .eq 6, 3) := by decide +kernel
theorem dX7_isMade_52 : decode cX7_isMade 52 = .ok (.goto 79, 3) := by decide +kernel
theorem dX7_isMade_55 : decode cX7_isMade 55 = .ok (.iconst 0, 1) := by decide +kernel
theorem dX7_isMade_56 : decode cX7_isMade 56 = .ok (.istore 6, 2) := by decide +kernel
theorem dX7_isMade_58 : decode cX7_isMade 58 = .ok (.iload 6, 2) := by decide +kernel
theorem dX7_isMade_60 : decode cX7_isMade 60 = .ok (.bipush 64, 2) := by decide +kernel
theorem dX7_isMade_62 : decode cX7_isMade 62 = .ok (.if_icmp .ge 49, 3) := by decide +kernel
theorem dX7_isMade_65 : decode cX7_isMade 65 = .ok (.iload 4, 2) := by decide +kernel
theorem dX7_isMade_67 : decode cX7_isMade 67 = .ok (.ifCond .ne 31, 3) := by decide +kernel
theorem dX7_isMade_70 : decode cX7_isMade 70 = .ok (.lload_n 2, 1) := by decide +kernel
theorem dX7_isMade_71 : decode cX7_isMade 71 = .ok (.iload 6, 2) := by decide +kernel
theorem dX7_isMade_73 : decode cX7_isMade 73 = .ok (.invokestatic 82, 3) := by decide +kernel
theorem dX7_isMade_76 : decode cX7_isMade 76 = .ok (.ifCond .eq 26, 3) := by decide +kernel
theorem dX7_isMade_79 : decode cX7_isMade 79 = .ok (.iload 5, 2) := by decide +kernel
theorem dX7_isMade_81 : decode cX7_isMade 81 = .ok (.iload 6, 2) := by decide +kernel
theorem dX7_isMade_83 : decode cX7_isMade 83 = .ok (.invokestatic 100, 3) := by decide +kernel
theorem dX7_isMade_86 : decode cX7_isMade 86 = .ok (.ifCond .eq 16, 3) := by decide +kernel
theorem dX7_isMade_89 : decode cX7_isMade 89 = .ok (.lload_n 2, 1) := by decide +kernel
theorem dX7_isMade_90 : decode cX7_isMade 90 = .ok (.iload 5, 2) := by decide +kernel
theorem dX7_isMade_92 : decode cX7_isMade 92 = .ok (.invokestatic 82, 3) := by decide +kernel
theorem dX7_isMade_95 : decode cX7_isMade 95 = .ok (.ifCond .ne 7, 3) := by decide +kernel
theorem dX7_isMade_98 : decode cX7_isMade 98 = .ok (.iconst 1, 1) := by decide +kernel
theorem dX7_isMade_99 : decode cX7_isMade 99 = .ok (.goto 4, 3) := by decide +kernel
theorem dX7_isMade_102 : decode cX7_isMade 102 = .ok (.iconst 0, 1) := by decide +kernel
theorem dX7_isMade_103 : decode cX7_isMade 103 = .ok (.istore 4, 2) := by decide +kernel
theorem dX7_isMade_105 : decode cX7_isMade 105 = .ok (.iinc 6 1, 3) := by decide +kernel
theorem dX7_isMade_108 : decode cX7_isMade 108 = .ok (.goto (-50), 3) := by decide +kernel
theorem dX7_isMade_111 : decode cX7_isMade 111 = .ok (.iload 4, 2) := by decide +kernel
theorem dX7_isMade_113 : decode cX7_isMade 113 = .ok (.ifCond .eq 10, 3) := by decide +kernel
theorem dX7_isMade_116 : decode cX7_isMade 116 = .ok (.lload_n 2, 1) := by decide +kernel
theorem dX7_isMade_117 : decode cX7_isMade 117 = .ok (.lconst 1, 1) := by decide +kernel
theorem dX7_isMade_118 : decode cX7_isMade 118 = .ok (.iload 5, 2) := by decide +kernel
theorem dX7_isMade_120 : decode cX7_isMade 120 = .ok (.lshl, 1) := by decide +kernel
theorem dX7_isMade_121 : decode cX7_isMade 121 = .ok (.lor, 1) := by decide +kernel
theorem dX7_isMade_122 : decode cX7_isMade 122 = .ok (.lstore_n 2, 1) := by decide +kernel
theorem dX7_isMade_123 : decode cX7_isMade 123 = .ok (.iload 4, 2) := by decide +kernel
theorem dX7_isMade_125 : decode cX7_isMade 125 = .ok (.ifCond .eq 6, 3) := by decide +kernel
theorem dX7_isMade_128 : decode cX7_isMade 128 = .ok (.goto 9, 3) := by decide +kernel
theorem dX7_isMade_131 : decode cX7_isMade 131 = .ok (.iinc 5 1, 3) := by decide +kernel
theorem dX7_isMade_134 : decode cX7_isMade 134 = .ok (.goto (-107), 3) := by decide +kernel
theorem dX7_isMade_137 : decode cX7_isMade 137 = .ok (.goto (-121), 3) := by decide +kernel
theorem dX7_isMade_140 : decode cX7_isMade 140 = .ok (.lload_n 2, 1) := by decide +kernel
theorem dX7_isMade_141 : decode cX7_isMade 141 = .ok (.lload_n 0, 1) := by decide +kernel
theorem dX7_isMade_142 : decode cX7_isMade 142 = .ok (.lcmp, 1) := by decide +kernel
theorem dX7_isMade_143 : decode cX7_isMade 143 = .ok (.ifCond .ne 7, 3) := by decide +kernel
theorem dX7_isMade_146 : decode cX7_isMade 146 = .ok (.iconst 1, 1) := by decide +kernel
theorem dX7_isMade_147 : decode cX7_isMade 147 = .ok (.goto 4, 3) := by decide +kernel
theorem dX7_isMade_150 : decode cX7_isMade 150 = .ok (.iconst 0, 1) := by decide +kernel
theorem dX7_isMade_151 : decode cX7_isMade 151 = .ok (.ireturn, 1) := by decide +kernel
theorem dX7_axis_0 : decode cX7_axis 0 = .ok (.iload_n 1, 1) := by decide +kernel
theorem dX7_axis_1 : decode cX7_axis 1 = .ok (.ifCond .ne 9, 3) := by decide +kernel
theorem dX7_axis_4 : decode cX7_axis 4 = .ok (.iload_n 0, 1) := by decide +kernel
theorem dX7_axis_5 : decode cX7_axis 5 = .ok (.iconst 4, 1) := by decide +kernel
theorem dX7_axis_6 : decode cX7_axis 6 = .ok (.irem, 1) := by decide +kernel
theorem dX7_axis_7 : decode cX7_axis 7 = .ok (.goto 20, 3) := by decide +kernel
theorem dX7_axis_10 : decode cX7_axis 10 = .ok (.iload_n 1, 1) := by decide +kernel
theorem dX7_axis_11 : decode cX7_axis 11 = .ok (.iconst 1, 1) := by decide +kernel
theorem dX7_axis_12 : decode cX7_axis 12 = .ok (.if_icmp .ne 11, 3) := by decide +kernel
theorem dX7_axis_15 : decode cX7_axis 15 = .ok (.iload_n 0, 1) := by decide +kernel
theorem dX7_axis_16 : decode cX7_axis 16 = .ok (.iconst 4, 1) := by decide +kernel
theorem dX7_axis_17 : decode cX7_axis 17 = .ok (.idiv, 1) := by decide +kernel
theorem dX7_axis_18 : decode cX7_axis 18 = .ok (.iconst 4, 1) := by decide +kernel
theorem dX7_axis_19 : decode cX7_axis 19 = .ok (.irem, 1) := by decide +kernel
theorem dX7_axis_20 : decode cX7_axis 20 = .ok (.goto 7, 3) := by decide +kernel
theorem dX7_axis_23 : decode cX7_axis 23 = .ok (.iload_n 0, 1) := by decide +kernel
theorem dX7_axis_24 : decode cX7_axis 24 = .ok (.bipush 16, 2) := by decide +kernel
theorem dX7_axis_26 : decode cX7_axis 26 = .ok (.idiv, 1) := by decide +kernel
theorem dX7_axis_27 : decode cX7_axis 27 = .ok (.istore_n 3, 1) := by decide +kernel
theorem dX7_axis_28 : decode cX7_axis 28 = .ok (.iload_n 2, 1) := by decide +kernel
theorem dX7_axis_29 : decode cX7_axis 29 = .ok (.ifCond .eq 9, 3) := by decide +kernel
theorem dX7_axis_32 : decode cX7_axis 32 = .ok (.iconst 3, 1) := by decide +kernel
theorem dX7_axis_33 : decode cX7_axis 33 = .ok (.iload_n 3, 1) := by decide +kernel
theorem dX7_axis_34 : decode cX7_axis 34 = .ok (.isub, 1) := by decide +kernel
theorem dX7_axis_35 : decode cX7_axis 35 = .ok (.goto 4, 3) := by decide +kernel
theorem dX7_axis_38 : decode cX7_axis 38 = .ok (.iload_n 3, 1) := by decide +kernel
theorem dX7_axis_39 : decode cX7_axis 39 = .ok (.ireturn, 1) := by decide +kernel
theorem dX7_turned_0 : decode cX7_turned 0 = .ok (.iload_n 2, 1) := by decide +kernel
theorem dX7_turned_1 : decode cX7_turned 1 = .ok (.iconst 2, 1) := by decide +kernel
theorem dX7_turned_2 : decode cX7_turned 2 = .ok (.idiv, 1) := by decide +kernel
theorem dX7_turned_3 : decode cX7_turned 3 = .ok (.istore 4, 2) := by decide +kernel
theorem dX7_turned_5 : decode cX7_turned 5 = .ok (.iload_n 2, 1) := by decide +kernel
theorem dX7_turned_6 : decode cX7_turned 6 = .ok (.iconst 2, 1) := by decide +kernel
theorem dX7_turned_7 : decode cX7_turned 7 = .ok (.irem, 1) := by decide +kernel
theorem dX7_turned_8 : decode cX7_turned 8 = .ok (.ifCond .ne 12, 3) := by decide +kernel
theorem dX7_turned_11 : decode cX7_turned 11 = .ok (.iload 4, 2) := by decide +kernel
theorem dX7_turned_13 : decode cX7_turned 13 = .ok (.iconst 1, 1) := by decide +kernel
theorem dX7_turned_14 : decode cX7_turned 14 = .ok (.iadd, 1) := by decide +kernel
theorem dX7_turned_15 : decode cX7_turned 15 = .ok (.iconst 3, 1) := by decide +kernel
theorem dX7_turned_16 : decode cX7_turned 16 = .ok (.irem, 1) := by decide +kernel
theorem dX7_turned_17 : decode cX7_turned 17 = .ok (.goto 9, 3) := by decide +kernel
theorem dX7_turned_20 : decode cX7_turned 20 = .ok (.iload 4, 2) := by decide +kernel
theorem dX7_turned_22 : decode cX7_turned 22 = .ok (.iconst 2, 1) := by decide +kernel
theorem dX7_turned_23 : decode cX7_turned 23 = .ok (.iadd, 1) := by decide +kernel
theorem dX7_turned_24 : decode cX7_turned 24 = .ok (.iconst 3, 1) := by decide +kernel
theorem dX7_turned_25 : decode cX7_turned 25 = .ok (.irem, 1) := by decide +kernel
theorem dX7_turned_26 : decode cX7_turned 26 = .ok (.istore 5, 2) := by decide +kernel
theorem dX7_turned_28 : decode cX7_turned 28 = .ok (.iconst 3, 1) := by decide +kernel
theorem dX7_turned_29 : decode cX7_turned 29 = .ok (.iload 4, 2) := by decide +kernel
theorem dX7_turned_31 : decode cX7_turned 31 = .ok (.isub, 1) := by decide +kernel
theorem dX7_turned_32 : decode cX7_turned 32 = .ok (.iload 5, 2) := by decide +kernel
theorem dX7_turned_34 : decode cX7_turned 34 = .ok (.isub, 1) := by decide +kernel
theorem dX7_turned_35 : decode cX7_turned 35 = .ok (.istore 6, 2) := by decide +kernel
theorem dX7_turned_37 : decode cX7_turned 37 = .ok (.iconst 3, 1) := by decide +kernel
theorem dX7_turned_38 : decode cX7_turned 38 = .ok (.istore 7, 2) := by decide +kernel
theorem dX7_turned_40 : decode cX7_turned 40 = .ok (.iconst 3, 1) := by decide +kernel
theorem dX7_turned_41 : decode cX7_turned 41 = .ok (.istore 8, 2) := by decide +kernel
theorem dX7_turned_43 : decode cX7_turned 43 = .ok (.iconst 3, 1) := by decide +kernel
theorem dX7_turned_44 : decode cX7_turned 44 = .ok (.istore 9, 2) := by decide +kernel
theorem dX7_turned_46 : decode cX7_turned 46 = .ok (.iconst 0, 1) := by decide +kernel
theorem dX7_turned_47 : decode cX7_turned 47 = .ok (.istore 10, 2) := by decide +kernel
theorem dX7_turned_49 : decode cX7_turned 49 = .ok (.iload 10, 2) := by decide +kernel
theorem dX7_turned_51 : decode cX7_turned 51 = .ok (.bipush 64, 2) := by decide +kernel
theorem dX7_turned_53 : decode cX7_turned 53 = .ok (.if_icmp .ge 132, 3) := by decide +kernel
theorem dX7_turned_56 : decode cX7_turned 56 = .ok (.lload_n 0, 1) := by decide +kernel
theorem dX7_turned_57 : decode cX7_turned 57 = .ok (.iload 10, 2) := by decide +kernel
theorem dX7_turned_59 : decode cX7_turned 59 = .ok (.invokestatic 82, 3) := by decide +kernel
theorem dX7_turned_62 : decode cX7_turned 62 = .ok (.ifCond .ne 6, 3) := by decide +kernel
theorem dX7_turned_65 : decode cX7_turned 65 = .ok (.goto 114, 3) := by decide +kernel
theorem dX7_turned_68 : decode cX7_turned 68 = .ok (.iload 10, 2) := by decide +kernel
theorem dX7_turned_70 : decode cX7_turned 70 = .ok (.iload 4, 2) := by decide +kernel
theorem dX7_turned_72 : decode cX7_turned 72 = .ok (.iload_n 3, 1) := by decide +kernel
theorem dX7_turned_73 : decode cX7_turned 73 = .ok (.iconst 1, 1) := by decide +kernel
theorem dX7_turned_74 : decode cX7_turned 74 = .ok (.iand, 1) := by decide +kernel
theorem dX7_turned_75 : decode cX7_turned 75 = .ok (.iconst 1, 1) := by decide +kernel
theorem dX7_turned_76 : decode cX7_turned 76 = .ok (.if_icmp .ne 7, 3) := by decide +kernel
theorem dX7_turned_79 : decode cX7_turned 79 = .ok (.iconst 1, 1) := by decide +kernel
theorem dX7_turned_80 : decode cX7_turned 80 = .ok (.goto 4, 3) := by decide +kernel
theorem dX7_turned_83 : decode cX7_turned 83 = .ok (.iconst 0, 1) := by decide +kernel
theorem dX7_turned_84 : decode cX7_turned 84 = .ok (.invokestatic 104, 3) := by decide +kernel
theorem dX7_turned_87 : decode cX7_turned 87 = .ok (.istore 11, 2) := by decide +kernel
theorem dX7_turned_89 : decode cX7_turned 89 = .ok (.iload 10, 2) := by decide +kernel
theorem dX7_turned_91 : decode cX7_turned 91 = .ok (.iload 5, 2) := by decide +kernel
theorem dX7_turned_93 : decode cX7_turned 93 = .ok (.iload_n 3, 1) := by decide +kernel
theorem dX7_turned_94 : decode cX7_turned 94 = .ok (.iconst 2, 1) := by decide +kernel
theorem dX7_turned_95 : decode cX7_turned 95 = .ok (.iand, 1) := by decide +kernel
theorem dX7_turned_96 : decode cX7_turned 96 = .ok (.iconst 2, 1) := by decide +kernel
theorem dX7_turned_97 : decode cX7_turned 97 = .ok (.if_icmp .ne 7, 3) := by decide +kernel
theorem dX7_turned_100 : decode cX7_turned 100 = .ok (.iconst 1, 1) := by decide +kernel
theorem dX7_turned_101 : decode cX7_turned 101 = .ok (.goto 4, 3) := by decide +kernel
theorem dX7_turned_104 : decode cX7_turned 104 = .ok (.iconst 0, 1) := by decide +kernel
theorem dX7_turned_105 : decode cX7_turned 105 = .ok (.invokestatic 104, 3) := by decide +kernel
theorem dX7_turned_108 : decode cX7_turned 108 = .ok (.istore 12, 2) := by decide +kernel
theorem dX7_turned_110 : decode cX7_turned 110 = .ok (.iload 10, 2) := by decide +kernel
theorem dX7_turned_112 : decode cX7_turned 112 = .ok (.iload 6, 2) := by decide +kernel
theorem dX7_turned_114 : decode cX7_turned 114 = .ok (.iload_n 3, 1) := by decide +kernel
theorem dX7_turned_115 : decode cX7_turned 115 = .ok (.iconst 4, 1) := by decide +kernel
theorem dX7_turned_116 : decode cX7_turned 116 = .ok (.iand, 1) := by decide +kernel
theorem dX7_turned_117 : decode cX7_turned 117 = .ok (.iconst 4, 1) := by decide +kernel
theorem dX7_turned_118 : decode cX7_turned 118 = .ok (.if_icmp .ne 7, 3) := by decide +kernel
theorem dX7_turned_121 : decode cX7_turned 121 = .ok (.iconst 1, 1) := by decide +kernel
theorem dX7_turned_122 : decode cX7_turned 122 = .ok (.goto 4, 3) := by decide +kernel
theorem dX7_turned_125 : decode cX7_turned 125 = .ok (.iconst 0, 1) := by decide +kernel
theorem dX7_turned_126 : decode cX7_turned 126 = .ok (.invokestatic 104, 3) := by decide +kernel
theorem dX7_turned_129 : decode cX7_turned 129 = .ok (.istore 13, 2) := by decide +kernel
theorem dX7_turned_131 : decode cX7_turned 131 = .ok (.iload 11, 2) := by decide +kernel
theorem dX7_turned_133 : decode cX7_turned 133 = .ok (.iload 7, 2) := by decide +kernel
theorem dX7_turned_135 : decode cX7_turned 135 = .ok (.if_icmp .ge 8, 3) := by decide +kernel
theorem dX7_turned_138 : decode cX7_turned 138 = .ok (.iload 11, 2) := by decide +kernel
theorem dX7_turned_140 : decode cX7_turned 140 = .ok (.goto 5, 3) := by decide +kernel
theorem dX7_turned_143 : decode cX7_turned 143 = .ok (.iload 7, 2) := by decide +kernel
theorem dX7_turned_145 : decode cX7_turned 145 = .ok (.istore 7, 2) := by decide +kernel
theorem dX7_turned_147 : decode cX7_turned 147 = .ok (.iload 12, 2) := by decide +kernel
theorem dX7_turned_149 : decode cX7_turned 149 = .ok (.iload 8, 2) := by decide +kernel
theorem dX7_turned_151 : decode cX7_turned 151 = .ok (.if_icmp .ge 8, 3) := by decide +kernel
theorem dX7_turned_154 : decode cX7_turned 154 = .ok (.iload 12, 2) := by decide +kernel
theorem dX7_turned_156 : decode cX7_turned 156 = .ok (.goto 5, 3) := by decide +kernel
theorem dX7_turned_159 : decode cX7_turned 159 = .ok (.iload 8, 2) := by decide +kernel
theorem dX7_turned_161 : decode cX7_turned 161 = .ok (.istore 8, 2) := by decide +kernel
theorem dX7_turned_163 : decode cX7_turned 163 = .ok (.iload 13, 2) := by decide +kernel
theorem dX7_turned_165 : decode cX7_turned 165 = .ok (.iload 9, 2) := by decide +kernel
theorem dX7_turned_167 : decode cX7_turned 167 = .ok (.if_icmp .ge 8, 3) := by decide +kernel
theorem dX7_turned_170 : decode cX7_turned 170 = .ok (.iload 13, 2) := by decide +kernel
theorem dX7_turned_172 : decode cX7_turned 172 = .ok (.goto 5, 3) := by decide +kernel
theorem dX7_turned_175 : decode cX7_turned 175 = .ok (.iload 9, 2) := by decide +kernel
theorem dX7_turned_177 : decode cX7_turned 177 = .ok (.istore 9, 2) := by decide +kernel
theorem dX7_turned_179 : decode cX7_turned 179 = .ok (.iinc 10 1, 3) := by decide +kernel
theorem dX7_turned_182 : decode cX7_turned 182 = .ok (.goto (-133), 3) := by decide +kernel
theorem dX7_turned_185 : decode cX7_turned 185 = .ok (.lconst 0, 1) := by decide +kernel
theorem dX7_turned_186 : decode cX7_turned 186 = .ok (.lstore 10, 2) := by decide +kernel
theorem dX7_turned_188 : decode cX7_turned 188 = .ok (.iconst 0, 1) := by decide +kernel
theorem dX7_turned_189 : decode cX7_turned 189 = .ok (.istore 12, 2) := by decide +kernel
theorem dX7_turned_191 : decode cX7_turned 191 = .ok (.iload 12, 2) := by decide +kernel
theorem dX7_turned_193 : decode cX7_turned 193 = .ok (.bipush 64, 2) := by decide +kernel
theorem dX7_turned_195 : decode cX7_turned 195 = .ok (.if_icmp .ge 113, 3) := by decide +kernel
theorem dX7_turned_198 : decode cX7_turned 198 = .ok (.lload_n 0, 1) := by decide +kernel
theorem dX7_turned_199 : decode cX7_turned 199 = .ok (.iload 12, 2) := by decide +kernel
theorem dX7_turned_201 : decode cX7_turned 201 = .ok (.invokestatic 82, 3) := by decide +kernel
theorem dX7_turned_204 : decode cX7_turned 204 = .ok (.ifCond .ne 6, 3) := by decide +kernel
theorem dX7_turned_207 : decode cX7_turned 207 = .ok (.goto 95, 3) := by decide +kernel
theorem dX7_turned_210 : decode cX7_turned 210 = .ok (.iload 12, 2) := by decide +kernel
theorem dX7_turned_212 : decode cX7_turned 212 = .ok (.iload 4, 2) := by decide +kernel
theorem dX7_turned_214 : decode cX7_turned 214 = .ok (.iload_n 3, 1) := by decide +kernel
theorem dX7_turned_215 : decode cX7_turned 215 = .ok (.iconst 1, 1) := by decide +kernel
theorem dX7_turned_216 : decode cX7_turned 216 = .ok (.iand, 1) := by decide +kernel
theorem dX7_turned_217 : decode cX7_turned 217 = .ok (.iconst 1, 1) := by decide +kernel
theorem dX7_turned_218 : decode cX7_turned 218 = .ok (.if_icmp .ne 7, 3) := by decide +kernel
theorem dX7_turned_221 : decode cX7_turned 221 = .ok (.iconst 1, 1) := by decide +kernel
theorem dX7_turned_222 : decode cX7_turned 222 = .ok (.goto 4, 3) := by decide +kernel
theorem dX7_turned_225 : decode cX7_turned 225 = .ok (.iconst 0, 1) := by decide +kernel
theorem dX7_turned_226 : decode cX7_turned 226 = .ok (.invokestatic 104, 3) := by decide +kernel
theorem dX7_turned_229 : decode cX7_turned 229 = .ok (.iload 7, 2) := by decide +kernel
theorem dX7_turned_231 : decode cX7_turned 231 = .ok (.isub, 1) := by decide +kernel
theorem dX7_turned_232 : decode cX7_turned 232 = .ok (.istore 13, 2) := by decide +kernel
theorem dX7_turned_234 : decode cX7_turned 234 = .ok (.iload 12, 2) := by decide +kernel
theorem dX7_turned_236 : decode cX7_turned 236 = .ok (.iload 5, 2) := by decide +kernel
theorem dX7_turned_238 : decode cX7_turned 238 = .ok (.iload_n 3, 1) := by decide +kernel
theorem dX7_turned_239 : decode cX7_turned 239 = .ok (.iconst 2, 1) := by decide +kernel
theorem dX7_turned_240 : decode cX7_turned 240 = .ok (.iand, 1) := by decide +kernel
theorem dX7_turned_241 : decode cX7_turned 241 = .ok (.iconst 2, 1) := by decide +kernel
theorem dX7_turned_242 : decode cX7_turned 242 = .ok (.if_icmp .ne 7, 3) := by decide +kernel
theorem dX7_turned_245 : decode cX7_turned 245 = .ok (.iconst 1, 1) := by decide +kernel
theorem dX7_turned_246 : decode cX7_turned 246 = .ok (.goto 4, 3) := by decide +kernel
theorem dX7_turned_249 : decode cX7_turned 249 = .ok (.iconst 0, 1) := by decide +kernel
theorem dX7_turned_250 : decode cX7_turned 250 = .ok (.invokestatic 104, 3) := by decide +kernel
theorem dX7_turned_253 : decode cX7_turned 253 = .ok (.iload 8, 2) := by decide +kernel
theorem dX7_turned_255 : decode cX7_turned 255 = .ok (.isub, 1) := by decide +kernel
theorem dX7_turned_256 : decode cX7_turned 256 = .ok (.istore 14, 2) := by decide +kernel
theorem dX7_turned_258 : decode cX7_turned 258 = .ok (.iload 12, 2) := by decide +kernel
theorem dX7_turned_260 : decode cX7_turned 260 = .ok (.iload 6, 2) := by decide +kernel
theorem dX7_turned_262 : decode cX7_turned 262 = .ok (.iload_n 3, 1) := by decide +kernel
theorem dX7_turned_263 : decode cX7_turned 263 = .ok (.iconst 4, 1) := by decide +kernel
theorem dX7_turned_264 : decode cX7_turned 264 = .ok (.iand, 1) := by decide +kernel
theorem dX7_turned_265 : decode cX7_turned 265 = .ok (.iconst 4, 1) := by decide +kernel
theorem dX7_turned_266 : decode cX7_turned 266 = .ok (.if_icmp .ne 7, 3) := by decide +kernel
theorem dX7_turned_269 : decode cX7_turned 269 = .ok (.iconst 1, 1) := by decide +kernel
theorem dX7_turned_270 : decode cX7_turned 270 = .ok (.goto 4, 3) := by decide +kernel
theorem dX7_turned_273 : decode cX7_turned 273 = .ok (.iconst 0, 1) := by decide +kernel
theorem dX7_turned_274 : decode cX7_turned 274 = .ok (.invokestatic 104, 3) := by decide +kernel
theorem dX7_turned_277 : decode cX7_turned 277 = .ok (.iload 9, 2) := by decide +kernel
theorem dX7_turned_279 : decode cX7_turned 279 = .ok (.isub, 1) := by decide +kernel
theorem dX7_turned_280 : decode cX7_turned 280 = .ok (.istore 15, 2) := by decide +kernel
theorem dX7_turned_282 : decode cX7_turned 282 = .ok (.lload 10, 2) := by decide +kernel
theorem dX7_turned_284 : decode cX7_turned 284 = .ok (.lconst 1, 1) := by decide +kernel
theorem dX7_turned_285 : decode cX7_turned 285 = .ok (.iload 13, 2) := by decide +kernel
theorem dX7_turned_287 : decode cX7_turned 287 = .ok (.iconst 4, 1) := by decide +kernel
theorem dX7_turned_288 : decode cX7_turned 288 = .ok (.iload 14, 2) := by decide +kernel
theorem dX7_turned_290 : decode cX7_turned 290 = .ok (.imul, 1) := by decide +kernel
theorem dX7_turned_291 : decode cX7_turned 291 = .ok (.iadd, 1) := by decide +kernel
theorem dX7_turned_292 : decode cX7_turned 292 = .ok (.bipush 16, 2) := by decide +kernel
theorem dX7_turned_294 : decode cX7_turned 294 = .ok (.iload 15, 2) := by decide +kernel
theorem dX7_turned_296 : decode cX7_turned 296 = .ok (.imul, 1) := by decide +kernel
theorem dX7_turned_297 : decode cX7_turned 297 = .ok (.iadd, 1) := by decide +kernel
theorem dX7_turned_298 : decode cX7_turned 298 = .ok (.lshl, 1) := by decide +kernel
theorem dX7_turned_299 : decode cX7_turned 299 = .ok (.lor, 1) := by decide +kernel
theorem dX7_turned_300 : decode cX7_turned 300 = .ok (.lstore 10, 2) := by decide +kernel
theorem dX7_turned_302 : decode cX7_turned 302 = .ok (.iinc 12 1, 3) := by decide +kernel
theorem dX7_turned_305 : decode cX7_turned 305 = .ok (.goto (-114), 3) := by decide +kernel
theorem dX7_turned_308 : decode cX7_turned 308 = .ok (.lload 10, 2) := by decide +kernel
theorem dX7_turned_310 : decode cX7_turned 310 = .ok (.lreturn, 1) := by decide +kernel
theorem dX7_insert_0 : decode cX7_insert 0 = .ok (.iload_n 1, 1) := by decide +kernel
theorem dX7_insert_1 : decode cX7_insert 1 = .ok (.istore 5, 2) := by decide +kernel
theorem dX7_insert_3 : decode cX7_insert 3 = .ok (.iload 5, 2) := by decide +kernel
theorem dX7_insert_5 : decode cX7_insert 5 = .ok (.iload_n 1, 1) := by decide +kernel
theorem dX7_insert_6 : decode cX7_insert 6 = .ok (.iload_n 2, 1) := by decide +kernel
theorem dX7_insert_7 : decode cX7_insert 7 = .ok (.iadd, 1) := by decide +kernel
theorem dX7_insert_8 : decode cX7_insert 8 = .ok (.if_icmp .ge 20, 3) := by decide +kernel
theorem dX7_insert_11 : decode cX7_insert 11 = .ok (.aload_n 0, 1) := by decide +kernel
theorem dX7_insert_12 : decode cX7_insert 12 = .ok (.iload 5, 2) := by decide +kernel
theorem dX7_insert_14 : decode cX7_insert 14 = .ok (.laload, 1) := by decide +kernel
theorem dX7_insert_15 : decode cX7_insert 15 = .ok (.lload_n 3, 1) := by decide +kernel
theorem dX7_insert_16 : decode cX7_insert 16 = .ok (.invokestatic 108, 3) := by decide +kernel
theorem dX7_insert_19 : decode cX7_insert 19 = .ok (.ifCond .eq 9, 3) := by decide +kernel
theorem dX7_insert_22 : decode cX7_insert 22 = .ok (.iinc 5 1, 3) := by decide +kernel
theorem dX7_insert_25 : decode cX7_insert 25 = .ok (.goto (-22), 3) := by decide +kernel
theorem dX7_insert_28 : decode cX7_insert 28 = .ok (.iload 5, 2) := by decide +kernel
theorem dX7_insert_30 : decode cX7_insert 30 = .ok (.iload_n 1, 1) := by decide +kernel
theorem dX7_insert_31 : decode cX7_insert 31 = .ok (.iload_n 2, 1) := by decide +kernel
theorem dX7_insert_32 : decode cX7_insert 32 = .ok (.iadd, 1) := by decide +kernel
theorem dX7_insert_33 : decode cX7_insert 33 = .ok (.if_icmp .ge 14, 3) := by decide +kernel
theorem dX7_insert_36 : decode cX7_insert 36 = .ok (.aload_n 0, 1) := by decide +kernel
theorem dX7_insert_37 : decode cX7_insert 37 = .ok (.iload 5, 2) := by decide +kernel
theorem dX7_insert_39 : decode cX7_insert 39 = .ok (.laload, 1) := by decide +kernel
theorem dX7_insert_40 : decode cX7_insert 40 = .ok (.lload_n 3, 1) := by decide +kernel
theorem dX7_insert_41 : decode cX7_insert 41 = .ok (.lcmp, 1) := by decide +kernel
theorem dX7_insert_42 : decode cX7_insert 42 = .ok (.ifCond .ne 5, 3) := by decide +kernel
theorem dX7_insert_45 : decode cX7_insert 45 = .ok (.iload_n 2, 1) := by decide +kernel
theorem dX7_insert_46 : decode cX7_insert 46 = .ok (.ireturn, 1) := by decide +kernel
theorem dX7_insert_47 : decode cX7_insert 47 = .ok (.iload_n 1, 1) := by decide +kernel
theorem dX7_insert_48 : decode cX7_insert 48 = .ok (.iload_n 2, 1) := by decide +kernel
theorem dX7_insert_49 : decode cX7_insert 49 = .ok (.iadd, 1) := by decide +kernel
theorem dX7_insert_50 : decode cX7_insert 50 = .ok (.istore 6, 2) := by decide +kernel
theorem dX7_insert_52 : decode cX7_insert 52 = .ok (.iload 6, 2) := by decide +kernel
theorem dX7_insert_54 : decode cX7_insert 54 = .ok (.iload 5, 2) := by decide +kernel
theorem dX7_insert_56 : decode cX7_insert 56 = .ok (.if_icmp .le 19, 3) := by decide +kernel
theorem dX7_insert_59 : decode cX7_insert 59 = .ok (.aload_n 0, 1) := by decide +kernel
theorem dX7_insert_60 : decode cX7_insert 60 = .ok (.iload 6, 2) := by decide +kernel
theorem dX7_insert_62 : decode cX7_insert 62 = .ok (.aload_n 0, 1) := by decide +kernel
theorem dX7_insert_63 : decode cX7_insert 63 = .ok (.iload 6, 2) := by decide +kernel
theorem dX7_insert_65 : decode cX7_insert 65 = .ok (.iconst 1, 1) := by decide +kernel
theorem dX7_insert_66 : decode cX7_insert 66 = .ok (.isub, 1) := by decide +kernel
theorem dX7_insert_67 : decode cX7_insert 67 = .ok (.laload, 1) := by decide +kernel
theorem dX7_insert_68 : decode cX7_insert 68 = .ok (.lastore, 1) := by decide +kernel
theorem dX7_insert_69 : decode cX7_insert 69 = .ok (.iinc 6 (-1), 3) := by decide +kernel
theorem dX7_insert_72 : decode cX7_insert 72 = .ok (.goto (-20), 3) := by decide +kernel
theorem dX7_insert_75 : decode cX7_insert 75 = .ok (.aload_n 0, 1) := by decide +kernel
theorem dX7_insert_76 : decode cX7_insert 76 = .ok (.iload 5, 2) := by decide +kernel
theorem dX7_insert_78 : decode cX7_insert 78 = .ok (.lload_n 3, 1) := by decide +kernel
theorem dX7_insert_79 : decode cX7_insert 79 = .ok (.lastore, 1) := by decide +kernel
theorem dX7_insert_80 : decode cX7_insert 80 = .ok (.iload_n 2, 1) := by decide +kernel
theorem dX7_insert_81 : decode cX7_insert 81 = .ok (.iconst 1, 1) := by decide +kernel
theorem dX7_insert_82 : decode cX7_insert 82 = .ok (.iadd, 1) := by decide +kernel
theorem dX7_insert_83 : decode cX7_insert 83 = .ok (.ireturn, 1) := by decide +kernel
theorem dX7_shapesOf_0 : decode cX7_shapesOf 0 = .ok (.aload_n 0, 1) := by decide +kernel
theorem dX7_shapesOf_1 : decode cX7_shapesOf 1 = .ok (.getfield 21, 3) := by decide +kernel
theorem dX7_shapesOf_4 : decode cX7_shapesOf 4 = .ok (.iload_n 1, 1) := by decide +kernel
theorem dX7_shapesOf_5 : decode cX7_shapesOf 5 = .ok (.iconst 0, 1) := by decide +kernel
theorem dX7_shapesOf_6 : decode cX7_shapesOf 6 = .ok (.iastore, 1) := by decide +kernel
theorem dX7_shapesOf_7 : decode cX7_shapesOf 7 = .ok (.aload_n 0, 1) := by decide +kernel
theorem dX7_shapesOf_8 : decode cX7_shapesOf 8 = .ok (.getfield 7, 3) := by decide +kernel
theorem dX7_shapesOf_11 : decode cX7_shapesOf 11 = .ok (.iload_n 1, 1) := by decide +kernel
theorem dX7_shapesOf_12 : decode cX7_shapesOf 12 = .ok (.laload, 1) := by decide +kernel
theorem dX7_shapesOf_13 : decode cX7_shapesOf 13 = .ok (.invokestatic 112, 3) := by decide +kernel
theorem dX7_shapesOf_16 : decode cX7_shapesOf 16 = .ok (.ifCond .ne 4, 3) := by decide +kernel
theorem dX7_shapesOf_19 : decode cX7_shapesOf 19 = .ok (.return_, 1) := by decide +kernel
theorem dX7_shapesOf_20 : decode cX7_shapesOf 20 = .ok (.iconst 0, 1) := by decide +kernel
theorem dX7_shapesOf_21 : decode cX7_shapesOf 21 = .ok (.istore_n 2, 1) := by decide +kernel
theorem dX7_shapesOf_22 : decode cX7_shapesOf 22 = .ok (.iload_n 2, 1) := by decide +kernel
theorem dX7_shapesOf_23 : decode cX7_shapesOf 23 = .ok (.bipush 6, 2) := by decide +kernel
theorem dX7_shapesOf_25 : decode cX7_shapesOf 25 = .ok (.if_icmp .ge 92, 3) := by decide +kernel
theorem dX7_shapesOf_28 : decode cX7_shapesOf 28 = .ok (.iconst 0, 1) := by decide +kernel
theorem dX7_shapesOf_29 : decode cX7_shapesOf 29 = .ok (.istore_n 3, 1) := by decide +kernel
theorem dX7_shapesOf_30 : decode cX7_shapesOf 30 = .ok (.iload_n 3, 1) := by decide +kernel
theorem dX7_shapesOf_31 : decode cX7_shapesOf 31 = .ok (.bipush 8, 2) := by decide +kernel
theorem dX7_shapesOf_33 : decode cX7_shapesOf 33 = .ok (.if_icmp .ge 78, 3) := by decide +kernel
theorem dX7_shapesOf_36 : decode cX7_shapesOf 36 = .ok (.iload_n 2, 1) := by decide +kernel
theorem dX7_shapesOf_37 : decode cX7_shapesOf 37 = .ok (.iconst 2, 1) := by decide +kernel
theorem dX7_shapesOf_38 : decode cX7_shapesOf 38 = .ok (.irem, 1) := by decide +kernel
theorem dX7_shapesOf_39 : decode cX7_shapesOf 39 = .ok (.iload_n 3, 1) := by decide +kernel
theorem dX7_shapesOf_40 : decode cX7_shapesOf 40 = .ok (.iconst 1, 1) := by decide +kernel
theorem dX7_shapesOf_41 : decode cX7_shapesOf 41 = .ok (.iand, 1) := by decide +kernel
theorem dX7_shapesOf_42 : decode cX7_shapesOf 42 = .ok (.iadd, 1) := by decide +kernel
theorem dX7_shapesOf_43 : decode cX7_shapesOf 43 = .ok (.iload_n 3, 1) := by decide +kernel
theorem dX7_shapesOf_44 : decode cX7_shapesOf 44 = .ok (.iconst 1, 1) := by decide +kernel
theorem dX7_shapesOf_45 : decode cX7_shapesOf 45 = .ok (.ishr, 1) := by decide +kernel
theorem dX7_shapesOf_46 : decode cX7_shapesOf 46 = .ok (.iconst 1, 1) := by decide +kernel
theorem dX7_shapesOf_47 : decode cX7_shapesOf 47 = .ok (.iand, 1) := by decide +kernel
theorem dX7_shapesOf_48 : decode cX7_shapesOf 48 = .ok (.iadd, 1) := by decide +kernel
theorem dX7_shapesOf_49 : decode cX7_shapesOf 49 = .ok (.iload_n 3, 1) := by decide +kernel
theorem dX7_shapesOf_50 : decode cX7_shapesOf 50 = .ok (.iconst 2, 1) := by decide +kernel
theorem dX7_shapesOf_51 : decode cX7_shapesOf 51 = .ok (.ishr, 1) := by decide +kernel
theorem dX7_shapesOf_52 : decode cX7_shapesOf 52 = .ok (.iadd, 1) := by decide +kernel
theorem dX7_shapesOf_53 : decode cX7_shapesOf 53 = .ok (.istore 4, 2) := by decide +kernel
theorem dX7_shapesOf_55 : decode cX7_shapesOf 55 = .ok (.iload 4, 2) := by decide +kernel
theorem dX7_shapesOf_57 : decode cX7_shapesOf 57 = .ok (.iconst 2, 1) := by decide +kernel
theorem dX7_shapesOf_58 : decode cX7_shapesOf 58 = .ok (.irem, 1) := by decide +kernel
theorem dX7_shapesOf_59 : decode cX7_shapesOf 59 = .ok (.ifCond .eq 12, 3) := by decide +kernel
theorem dX7_shapesOf_62 : decode cX7_shapesOf 62 = .ok (.aload_n 0, 1) := by decide +kernel
theorem dX7_shapesOf_63 : decode cX7_shapesOf 63 = .ok (.getfield 13, 3) := by decide +kernel
theorem dX7_shapesOf_66 : decode cX7_shapesOf 66 = .ok (.iload_n 1, 1) := by decide +kernel
theorem dX7_shapesOf_67 : decode cX7_shapesOf 67 = .ok (.baload, 1) := by decide +kernel
theorem dX7_shapesOf_68 : decode cX7_shapesOf 68 = .ok (.ifCond .eq 37, 3) := by decide +kernel
theorem dX7_shapesOf_71 : decode cX7_shapesOf 71 = .ok (.aload_n 0, 1) := by decide +kernel
theorem dX7_shapesOf_72 : decode cX7_shapesOf 72 = .ok (.getfield 21, 3) := by decide +kernel
theorem dX7_shapesOf_75 : decode cX7_shapesOf 75 = .ok (.iload_n 1, 1) := by decide +kernel
theorem dX7_shapesOf_76 : decode cX7_shapesOf 76 = .ok (.aload_n 0, 1) := by decide +kernel
theorem dX7_shapesOf_77 : decode cX7_shapesOf 77 = .ok (.getfield 24, 3) := by decide +kernel
theorem dX7_shapesOf_80 : decode cX7_shapesOf 80 = .ok (.iload_n 1, 1) := by decide +kernel
theorem dX7_shapesOf_81 : decode cX7_shapesOf 81 = .ok (.bipush 48, 2) := by decide +kernel
theorem dX7_shapesOf_83 : decode cX7_shapesOf 83 = .ok (.imul, 1) := by decide +kernel
theorem dX7_shapesOf_84 : decode cX7_shapesOf 84 = .ok (.aload_n 0, 1) := by decide +kernel
theorem dX7_shapesOf_85 : decode cX7_shapesOf 85 = .ok (.getfield 21, 3) := by decide +kernel
theorem dX7_shapesOf_88 : decode cX7_shapesOf 88 = .ok (.iload_n 1, 1) := by decide +kernel
theorem dX7_shapesOf_89 : decode cX7_shapesOf 89 = .ok (.iaload, 1) := by decide +kernel
theorem dX7_shapesOf_90 : decode cX7_shapesOf 90 = .ok (.aload_n 0, 1) := by decide +kernel
theorem dX7_shapesOf_91 : decode cX7_shapesOf 91 = .ok (.getfield 7, 3) := by decide +kernel
theorem dX7_shapesOf_94 : decode cX7_shapesOf 94 = .ok (.iload_n 1, 1) := by decide +kernel
theorem dX7_shapesOf_95 : decode cX7_shapesOf 95 = .ok (.laload, 1) := by decide +kernel
theorem dX7_shapesOf_96 : decode cX7_shapesOf 96 = .ok (.iload_n 2, 1) := by decide +kernel
theorem dX7_shapesOf_97 : decode cX7_shapesOf 97 = .ok (.iload_n 3, 1) := by decide +kernel
theorem dX7_shapesOf_98 : decode cX7_shapesOf 98 = .ok (.invokestatic 116, 3) := by decide +kernel
theorem dX7_shapesOf_101 : decode cX7_shapesOf 101 = .ok (.invokestatic 120, 3) := by decide +kernel
theorem dX7_shapesOf_104 : decode cX7_shapesOf 104 = .ok (.iastore, 1) := by decide +kernel
theorem dX7_shapesOf_105 : decode cX7_shapesOf 105 = .ok (.iinc 3 1, 3) := by decide +kernel
theorem dX7_shapesOf_108 : decode cX7_shapesOf 108 = .ok (.goto (-78), 3) := by decide +kernel
theorem dX7_shapesOf_111 : decode cX7_shapesOf 111 = .ok (.iinc 2 1, 3) := by decide +kernel
theorem dX7_shapesOf_114 : decode cX7_shapesOf 114 = .ok (.goto (-92), 3) := by decide +kernel
theorem dX7_shapesOf_117 : decode cX7_shapesOf 117 = .ok (.return_, 1) := by decide +kernel
theorem dX7_shapes_0 : decode cX7_shapes 0 = .ok (.aload_n 0, 1) := by decide +kernel
theorem dX7_shapes_1 : decode cX7_shapes 1 = .ok (.iload_n 1, 1) := by decide +kernel
theorem dX7_shapes_2 : decode cX7_shapes 2 = .ok (.iconst 0, 1) := by decide +kernel
theorem dX7_shapes_3 : decode cX7_shapes 3 = .ok (.iconst 5, 1) := by decide +kernel
theorem dX7_shapes_4 : decode cX7_shapes 4 = .ok (.invokestatic 88, 3) := by decide +kernel
theorem dX7_shapes_7 : decode cX7_shapes 7 = .ok (.invokevirtual 96, 3) := by decide +kernel
theorem dX7_shapes_10 : decode cX7_shapes 10 = .ok (.ifCond .ne 5, 3) := by decide +kernel
theorem dX7_shapes_13 : decode cX7_shapes 13 = .ok (.iconst 0, 1) := by decide +kernel
theorem dX7_shapes_14 : decode cX7_shapes 14 = .ok (.ireturn, 1) := by decide +kernel
theorem dX7_shapes_15 : decode cX7_shapes 15 = .ok (.aload_n 0, 1) := by decide +kernel
theorem dX7_shapes_16 : decode cX7_shapes 16 = .ok (.iload_n 1, 1) := by decide +kernel
theorem dX7_shapes_17 : decode cX7_shapes 17 = .ok (.invokevirtual 124, 3) := by decide +kernel
theorem dX7_shapes_20 : decode cX7_shapes 20 = .ok (.aload_n 0, 1) := by decide +kernel
theorem dX7_shapes_21 : decode cX7_shapes 21 = .ok (.getfield 21, 3) := by decide +kernel
theorem dX7_shapes_24 : decode cX7_shapes 24 = .ok (.iload_n 1, 1) := by decide +kernel
theorem dX7_shapes_25 : decode cX7_shapes 25 = .ok (.iaload, 1) := by decide +kernel
theorem dX7_shapes_26 : decode cX7_shapes 26 = .ok (.ireturn, 1) := by decide +kernel
theorem dX7_shape_0 : decode cX7_shape 0 = .ok (.aload_n 0, 1) := by decide +kernel
theorem dX7_shape_1 : decode cX7_shape 1 = .ok (.iload_n 1, 1) := by decide +kernel
theorem dX7_shape_2 : decode cX7_shape 2 = .ok (.iconst 0, 1) := by decide +kernel
theorem dX7_shape_3 : decode cX7_shape 3 = .ok (.iconst 5, 1) := by decide +kernel
theorem dX7_shape_4 : decode cX7_shape 4 = .ok (.invokestatic 88, 3) := by decide +kernel
theorem dX7_shape_7 : decode cX7_shape 7 = .ok (.invokevirtual 96, 3) := by decide +kernel
theorem dX7_shape_10 : decode cX7_shape 10 = .ok (.ifCond .ne 5, 3) := by decide +kernel
theorem dX7_shape_13 : decode cX7_shape 13 = .ok (.lconst 0, 1) := by decide +kernel
theorem dX7_shape_14 : decode cX7_shape 14 = .ok (.lreturn, 1) := by decide +kernel
theorem dX7_shape_15 : decode cX7_shape 15 = .ok (.aload_n 0, 1) := by decide +kernel
theorem dX7_shape_16 : decode cX7_shape 16 = .ok (.iload_n 1, 1) := by decide +kernel
theorem dX7_shape_17 : decode cX7_shape 17 = .ok (.invokevirtual 124, 3) := by decide +kernel
theorem dX7_shape_20 : decode cX7_shape 20 = .ok (.aload_n 0, 1) := by decide +kernel
theorem dX7_shape_21 : decode cX7_shape 21 = .ok (.iload_n 2, 1) := by decide +kernel
theorem dX7_shape_22 : decode cX7_shape 22 = .ok (.iconst 0, 1) := by decide +kernel
theorem dX7_shape_23 : decode cX7_shape 23 = .ok (.aload_n 0, 1) := by decide +kernel
theorem dX7_shape_24 : decode cX7_shape 24 = .ok (.getfield 21, 3) := by decide +kernel
theorem dX7_shape_27 : decode cX7_shape 27 = .ok (.iload_n 1, 1) := by decide +kernel
theorem dX7_shape_28 : decode cX7_shape 28 = .ok (.iaload, 1) := by decide +kernel
theorem dX7_shape_29 : decode cX7_shape 29 = .ok (.iconst 1, 1) := by decide +kernel
theorem dX7_shape_30 : decode cX7_shape 30 = .ok (.isub, 1) := by decide +kernel
theorem dX7_shape_31 : decode cX7_shape 31 = .ok (.invokestatic 88, 3) := by decide +kernel
theorem dX7_shape_34 : decode cX7_shape 34 = .ok (.ifCond .eq 7, 3) := by decide +kernel
theorem dX7_shape_37 : decode cX7_shape 37 = .ok (.iconst 0, 1) := by decide +kernel
theorem dX7_shape_38 : decode cX7_shape 38 = .ok (.goto 4, 3) := by decide +kernel
theorem dX7_shape_41 : decode cX7_shape 41 = .ok (.iconst 2, 1) := by decide +kernel
theorem dX7_shape_42 : decode cX7_shape 42 = .ok (.putfield 78, 3) := by decide +kernel
theorem dX7_shape_45 : decode cX7_shape 45 = .ok (.aload_n 0, 1) := by decide +kernel
theorem dX7_shape_46 : decode cX7_shape 46 = .ok (.getfield 78, 3) := by decide +kernel
theorem dX7_shape_49 : decode cX7_shape 49 = .ok (.ifCond .le 7, 3) := by decide +kernel
theorem dX7_shape_52 : decode cX7_shape 52 = .ok (.lconst 0, 1) := by decide +kernel
theorem dX7_shape_53 : decode cX7_shape 53 = .ok (.goto 14, 3) := by decide +kernel
theorem dX7_shape_56 : decode cX7_shape 56 = .ok (.aload_n 0, 1) := by decide +kernel
theorem dX7_shape_57 : decode cX7_shape 57 = .ok (.getfield 24, 3) := by decide +kernel
theorem dX7_shape_60 : decode cX7_shape 60 = .ok (.iload_n 1, 1) := by decide +kernel
theorem dX7_shape_61 : decode cX7_shape 61 = .ok (.bipush 48, 2) := by decide +kernel
theorem dX7_shape_63 : decode cX7_shape 63 = .ok (.imul, 1) := by decide +kernel
theorem dX7_shape_64 : decode cX7_shape 64 = .ok (.iload_n 2, 1) := by decide +kernel
theorem dX7_shape_65 : decode cX7_shape 65 = .ok (.iadd, 1) := by decide +kernel
theorem dX7_shape_66 : decode cX7_shape 66 = .ok (.laload, 1) := by decide +kernel
theorem dX7_shape_67 : decode cX7_shape 67 = .ok (.lreturn, 1) := by decide +kernel
theorem dX7_target_0 : decode cX7_target 0 = .ok (.aload_n 0, 1) := by decide +kernel
theorem dX7_target_1 : decode cX7_target 1 = .ok (.iload_n 1, 1) := by decide +kernel
theorem dX7_target_2 : decode cX7_target 2 = .ok (.iconst 0, 1) := by decide +kernel
theorem dX7_target_3 : decode cX7_target 3 = .ok (.bipush 63, 2) := by decide +kernel
theorem dX7_target_5 : decode cX7_target 5 = .ok (.invokestatic 88, 3) := by decide +kernel
theorem dX7_target_8 : decode cX7_target 8 = .ok (.ifCond .eq 16, 3) := by decide +kernel
theorem dX7_target_11 : decode cX7_target 11 = .ok (.iload_n 2, 1) := by decide +kernel
theorem dX7_target_12 : decode cX7_target 12 = .ok (.iconst 0, 1) := by decide +kernel
theorem dX7_target_13 : decode cX7_target 13 = .ok (.iconst 2, 1) := by decide +kernel
theorem dX7_target_14 : decode cX7_target 14 = .ok (.invokestatic 88, 3) := by decide +kernel
theorem dX7_target_17 : decode cX7_target 17 = .ok (.ifCond .eq 7, 3) := by decide +kernel
theorem dX7_target_20 : decode cX7_target 20 = .ok (.iconst 1, 1) := by decide +kernel
theorem dX7_target_21 : decode cX7_target 21 = .ok (.goto 4, 3) := by decide +kernel
theorem dX7_target_24 : decode cX7_target 24 = .ok (.iconst 0, 1) := by decide +kernel
theorem dX7_target_25 : decode cX7_target 25 = .ok (.invokevirtual 96, 3) := by decide +kernel
theorem dX7_target_28 : decode cX7_target 28 = .ok (.ifCond .eq 10, 3) := by decide +kernel
theorem dX7_target_31 : decode cX7_target 31 = .ok (.aload_n 0, 1) := by decide +kernel
theorem dX7_target_32 : decode cX7_target 32 = .ok (.getfield 17, 3) := by decide +kernel
theorem dX7_target_35 : decode cX7_target 35 = .ok (.iload_n 1, 1) := by decide +kernel
theorem dX7_target_36 : decode cX7_target 36 = .ok (.iload_n 2, 1) := by decide +kernel
theorem dX7_target_37 : decode cX7_target 37 = .ok (.iastore, 1) := by decide +kernel
theorem dX7_target_38 : decode cX7_target 38 = .ok (.return_, 1) := by decide +kernel
theorem dX7_moved_0 : decode cX7_moved 0 = .ok (.lconst 0, 1) := by decide +kernel
theorem dX7_moved_1 : decode cX7_moved 1 = .ok (.lstore 5, 2) := by decide +kernel
theorem dX7_moved_3 : decode cX7_moved 3 = .ok (.iconst 0, 1) := by decide +kernel
theorem dX7_moved_4 : decode cX7_moved 4 = .ok (.istore 7, 2) := by decide +kernel
theorem dX7_moved_6 : decode cX7_moved 6 = .ok (.iload 7, 2) := by decide +kernel
theorem dX7_moved_8 : decode cX7_moved 8 = .ok (.bipush 64, 2) := by decide +kernel
theorem dX7_moved_10 : decode cX7_moved 10 = .ok (.if_icmp .ge 89, 3) := by decide +kernel
theorem dX7_moved_13 : decode cX7_moved 13 = .ok (.lload_n 0, 1) := by decide +kernel
theorem dX7_moved_14 : decode cX7_moved 14 = .ok (.iload 7, 2) := by decide +kernel
theorem dX7_moved_16 : decode cX7_moved 16 = .ok (.invokestatic 82, 3) := by decide +kernel
theorem dX7_moved_19 : decode cX7_moved 19 = .ok (.ifCond .ne 6, 3) := by decide +kernel
theorem dX7_moved_22 : decode cX7_moved 22 = .ok (.goto 71, 3) := by decide +kernel
theorem dX7_moved_25 : decode cX7_moved 25 = .ok (.iload 7, 2) := by decide +kernel
theorem dX7_moved_27 : decode cX7_moved 27 = .ok (.iconst 4, 1) := by decide +kernel
theorem dX7_moved_28 : decode cX7_moved 28 = .ok (.irem, 1) := by decide +kernel
theorem dX7_moved_29 : decode cX7_moved 29 = .ok (.iload_n 2, 1) := by decide +kernel
theorem dX7_moved_30 : decode cX7_moved 30 = .ok (.iadd, 1) := by decide +kernel
theorem dX7_moved_31 : decode cX7_moved 31 = .ok (.istore 8, 2) := by decide +kernel
theorem dX7_moved_33 : decode cX7_moved 33 = .ok (.iload 7, 2) := by decide +kernel
theorem dX7_moved_35 : decode cX7_moved 35 = .ok (.iconst 4, 1) := by decide +kernel
theorem dX7_moved_36 : decode cX7_moved 36 = .ok (.idiv, 1) := by decide +kernel
theorem dX7_moved_37 : decode cX7_moved 37 = .ok (.iconst 4, 1) := by decide +kernel
theorem dX7_moved_38 : decode cX7_moved 38 = .ok (.irem, 1) := by decide +kernel
theorem dX7_moved_39 : decode cX7_moved 39 = .ok (.iload_n 3, 1) := by decide +kernel
theorem dX7_moved_40 : decode cX7_moved 40 = .ok (.iadd, 1) := by decide +kernel
theorem dX7_moved_41 : decode cX7_moved 41 = .ok (.istore 9, 2) := by decide +kernel
theorem dX7_moved_43 : decode cX7_moved 43 = .ok (.iload 7, 2) := by decide +kernel
theorem dX7_moved_45 : decode cX7_moved 45 = .ok (.bipush 16, 2) := by decide +kernel
theorem dX7_moved_47 : decode cX7_moved 47 = .ok (.idiv, 1) := by decide +kernel
theorem dX7_moved_48 : decode cX7_moved 48 = .ok (.iload 4, 2) := by decide +kernel
theorem dX7_moved_50 : decode cX7_moved 50 = .ok (.iadd, 1) := by decide +kernel
theorem dX7_moved_51 : decode cX7_moved 51 = .ok (.istore 10, 2) := by decide +kernel
theorem dX7_moved_53 : decode cX7_moved 53 = .ok (.iload 8, 2) := by decide +kernel
theorem dX7_moved_55 : decode cX7_moved 55 = .ok (.iconst 3, 1) := by decide +kernel
theorem dX7_moved_56 : decode cX7_moved 56 = .ok (.if_icmp .gt 15, 3) := by decide +kernel
theorem dX7_moved_59 : decode cX7_moved 59 = .ok (.iload 9, 2) := by decide +kernel
theorem dX7_moved_61 : decode cX7_moved 61 = .ok (.iconst 3, 1) := by decide +kernel
theorem dX7_moved_62 : decode cX7_moved 62 = .ok (.if_icmp .gt 9, 3) := by decide +kernel
theorem dX7_moved_65 : decode cX7_moved 65 = .ok (.iload 10, 2) := by decide +kernel
theorem dX7_moved_67 : decode cX7_moved 67 = .ok (.iconst 3, 1) := by decide +kernel
theorem dX7_moved_68 : decode cX7_moved 68 = .ok (.if_icmp .le 5, 3) := by decide +kernel
theorem dX7_moved_71 : decode cX7_moved 71 = .ok (.lconst 0, 1) := by decide +kernel
theorem dX7_moved_72 : decode cX7_moved 72 = .ok (.lreturn, 1) := by decide +kernel
theorem dX7_moved_73 : decode cX7_moved 73 = .ok (.lload 5, 2) := by decide +kernel
theorem dX7_moved_75 : decode cX7_moved 75 = .ok (.lconst 1, 1) := by decide +kernel
theorem dX7_moved_76 : decode cX7_moved 76 = .ok (.iload 8, 2) := by decide +kernel
theorem dX7_moved_78 : decode cX7_moved 78 = .ok (.iconst 4, 1) := by decide +kernel
theorem dX7_moved_79 : decode cX7_moved 79 = .ok (.iload 9, 2) := by decide +kernel
theorem dX7_moved_81 : decode cX7_moved 81 = .ok (.imul, 1) := by decide +kernel
theorem dX7_moved_82 : decode cX7_moved 82 = .ok (.iadd, 1) := by decide +kernel
theorem dX7_moved_83 : decode cX7_moved 83 = .ok (.bipush 16, 2) := by decide +kernel
theorem dX7_moved_85 : decode cX7_moved 85 = .ok (.iload 10, 2) := by decide +kernel
theorem dX7_moved_87 : decode cX7_moved 87 = .ok (.imul, 1) := by decide +kernel
theorem dX7_moved_88 : decode cX7_moved 88 = .ok (.iadd, 1) := by decide +kernel
theorem dX7_moved_89 : decode cX7_moved 89 = .ok (.lshl, 1) := by decide +kernel
theorem dX7_moved_90 : decode cX7_moved 90 = .ok (.lor, 1) := by decide +kernel
theorem dX7_moved_91 : decode cX7_moved 91 = .ok (.lstore 5, 2) := by decide +kernel
theorem dX7_moved_93 : decode cX7_moved 93 = .ok (.iinc 7 1, 3) := by decide +kernel
theorem dX7_moved_96 : decode cX7_moved 96 = .ok (.goto (-90), 3) := by decide +kernel
theorem dX7_moved_99 : decode cX7_moved 99 = .ok (.lload 5, 2) := by decide +kernel
theorem dX7_moved_101 : decode cX7_moved 101 = .ok (.lreturn, 1) := by decide +kernel
theorem dX7_placesOf_0 : decode cX7_placesOf 0 = .ok (.aload_n 0, 1) := by decide +kernel
theorem dX7_placesOf_1 : decode cX7_placesOf 1 = .ok (.iload_n 1, 1) := by decide +kernel
theorem dX7_placesOf_2 : decode cX7_placesOf 2 = .ok (.invokevirtual 124, 3) := by decide +kernel
theorem dX7_placesOf_5 : decode cX7_placesOf 5 = .ok (.aload_n 0, 1) := by decide +kernel
theorem dX7_placesOf_6 : decode cX7_placesOf 6 = .ok (.getfield 27, 3) := by decide +kernel
theorem dX7_placesOf_9 : decode cX7_placesOf 9 = .ok (.iload_n 1, 1) := by decide +kernel
theorem dX7_placesOf_10 : decode cX7_placesOf 10 = .ok (.iconst 0, 1) := by decide +kernel
theorem dX7_placesOf_11 : decode cX7_placesOf 11 = .ok (.iastore, 1) := by decide +kernel
theorem dX7_placesOf_12 : decode cX7_placesOf 12 = .ok (.iconst 0, 1) := by decide +kernel
theorem dX7_placesOf_13 : decode cX7_placesOf 13 = .ok (.istore_n 2, 1) := by decide +kernel
theorem dX7_placesOf_14 : decode cX7_placesOf 14 = .ok (.iload_n 2, 1) := by decide +kernel
theorem dX7_placesOf_15 : decode cX7_placesOf 15 = .ok (.aload_n 0, 1) := by decide +kernel
theorem dX7_placesOf_16 : decode cX7_placesOf 16 = .ok (.getfield 21, 3) := by decide +kernel
theorem dX7_placesOf_19 : decode cX7_placesOf 19 = .ok (.iload_n 1, 1) := by decide +kernel
theorem dX7_placesOf_20 : decode cX7_placesOf 20 = .ok (.iaload, 1) := by decide +kernel
theorem dX7_placesOf_21 : decode cX7_placesOf 21 = .ok (.if_icmp .ge 144, 3) := by decide +kernel
theorem dX7_placesOf_24 : decode cX7_placesOf 24 = .ok (.iconst 0, 1) := by decide +kernel
theorem dX7_placesOf_25 : decode cX7_placesOf 25 = .ok (.istore_n 3, 1) := by decide +kernel
theorem dX7_placesOf_26 : decode cX7_placesOf 26 = .ok (.iload_n 3, 1) := by decide +kernel
theorem dX7_placesOf_27 : decode cX7_placesOf 27 = .ok (.bipush 64, 2) := by decide +kernel
theorem dX7_placesOf_29 : decode cX7_placesOf 29 = .ok (.if_icmp .ge 130, 3) := by decide +kernel
theorem dX7_placesOf_32 : decode cX7_placesOf 32 = .ok (.aload_n 0, 1) := by decide +kernel
theorem dX7_placesOf_33 : decode cX7_placesOf 33 = .ok (.getfield 24, 3) := by decide +kernel
theorem dX7_placesOf_36 : decode cX7_placesOf 36 = .ok (.iload_n 1, 1) := by decide +kernel
theorem dX7_placesOf_37 : decode cX7_placesOf 37 = .ok (.bipush 48, 2) := by decide +kernel
theorem dX7_placesOf_39 : decode cX7_placesOf 39 = .ok (.imul, 1) := by decide +kernel
theorem dX7_placesOf_40 : decode cX7_placesOf 40 = .ok (.iload_n 2, 1) := by decide +kernel
theorem dX7_placesOf_41 : decode cX7_placesOf 41 = .ok (.iadd, 1) := by decide +kernel
theorem dX7_placesOf_42 : decode cX7_placesOf 42 = .ok (.laload, 1) := by decide +kernel
theorem dX7_placesOf_43 : decode cX7_placesOf 43 = .ok (.iload_n 3, 1) := by decide +kernel
theorem dX7_placesOf_44 : decode cX7_placesOf 44 = .ok (.iconst 4, 1) := by decide +kernel
theorem dX7_placesOf_45 : decode cX7_placesOf 45 = .ok (.irem, 1) := by decide +kernel
theorem dX7_placesOf_46 : decode cX7_placesOf 46 = .ok (.iload_n 3, 1) := by decide +kernel
theorem dX7_placesOf_47 : decode cX7_placesOf 47 = .ok (.iconst 4, 1) := by decide +kernel
theorem dX7_placesOf_48 : decode cX7_placesOf 48 = .ok (.idiv, 1) := by decide +kernel
theorem dX7_placesOf_49 : decode cX7_placesOf 49 = .ok (.iconst 4, 1) := by decide +kernel
theorem dX7_placesOf_50 : decode cX7_placesOf 50 = .ok (.irem, 1) := by decide +kernel
theorem dX7_placesOf_51 : decode cX7_placesOf 51 = .ok (.iload_n 3, 1) := by decide +kernel
theorem dX7_placesOf_52 : decode cX7_placesOf 52 = .ok (.bipush 16, 2) := by decide +kernel
theorem dX7_placesOf_54 : decode cX7_placesOf 54 = .ok (.idiv, 1) := by decide +kernel
theorem dX7_placesOf_55 : decode cX7_placesOf 55 = .ok (.invokestatic 128, 3) := by decide +kernel
theorem dX7_placesOf_58 : decode cX7_placesOf 58 = .ok (.lstore 4, 2) := by decide +kernel
theorem dX7_placesOf_60 : decode cX7_placesOf 60 = .ok (.lload 4, 2) := by decide +kernel
theorem dX7_placesOf_62 : decode cX7_placesOf 62 = .ok (.lconst 0, 1) := by decide +kernel
theorem dX7_placesOf_63 : decode cX7_placesOf 63 = .ok (.lcmp, 1) := by decide +kernel
theorem dX7_placesOf_64 : decode cX7_placesOf 64 = .ok (.ifCond .eq 7, 3) := by decide +kernel
theorem dX7_placesOf_67 : decode cX7_placesOf 67 = .ok (.iconst 1, 1) := by decide +kernel
theorem dX7_placesOf_68 : decode cX7_placesOf 68 = .ok (.goto 4, 3) := by decide +kernel
theorem dX7_placesOf_71 : decode cX7_placesOf 71 = .ok (.iconst 0, 1) := by decide +kernel
theorem dX7_placesOf_72 : decode cX7_placesOf 72 = .ok (.istore 6, 2) := by decide +kernel
theorem dX7_placesOf_74 : decode cX7_placesOf 74 = .ok (.iconst 0, 1) := by decide +kernel
theorem dX7_placesOf_75 : decode cX7_placesOf 75 = .ok (.istore 7, 2) := by decide +kernel
theorem dX7_placesOf_77 : decode cX7_placesOf 77 = .ok (.iload 7, 2) := by decide +kernel
theorem dX7_placesOf_79 : decode cX7_placesOf 79 = .ok (.bipush 64, 2) := by decide +kernel
theorem dX7_placesOf_81 : decode cX7_placesOf 81 = .ok (.if_icmp .ge 41, 3) := by decide +kernel
theorem dX7_placesOf_84 : decode cX7_placesOf 84 = .ok (.iload 6, 2) := by decide +kernel
theorem dX7_placesOf_86 : decode cX7_placesOf 86 = .ok (.ifCond .eq 36, 3) := by decide +kernel
theorem dX7_placesOf_89 : decode cX7_placesOf 89 = .ok (.lload 4, 2) := by decide +kernel
theorem dX7_placesOf_91 : decode cX7_placesOf 91 = .ok (.iload 7, 2) := by decide +kernel
theorem dX7_placesOf_93 : decode cX7_placesOf 93 = .ok (.invokestatic 82, 3) := by decide +kernel
theorem dX7_placesOf_96 : decode cX7_placesOf 96 = .ok (.ifCond .eq 13, 3) := by decide +kernel
theorem dX7_placesOf_99 : decode cX7_placesOf 99 = .ok (.aload_n 0, 1) := by decide +kernel
theorem dX7_placesOf_100 : decode cX7_placesOf 100 = .ok (.getfield 17, 3) := by decide +kernel
theorem dX7_placesOf_103 : decode cX7_placesOf 103 = .ok (.iload 7, 2) := by decide +kernel
theorem dX7_placesOf_105 : decode cX7_placesOf 105 = .ok (.iaload, 1) := by decide +kernel
theorem dX7_placesOf_106 : decode cX7_placesOf 106 = .ok (.ifCond .le 7, 3) := by decide +kernel
theorem dX7_placesOf_109 : decode cX7_placesOf 109 = .ok (.iconst 1, 1) := by decide +kernel
theorem dX7_placesOf_110 : decode cX7_placesOf 110 = .ok (.goto 4, 3) := by decide +kernel
theorem dX7_placesOf_113 : decode cX7_placesOf 113 = .ok (.iconst 0, 1) := by decide +kernel
theorem dX7_placesOf_114 : decode cX7_placesOf 114 = .ok (.istore 6, 2) := by decide +kernel
theorem dX7_placesOf_116 : decode cX7_placesOf 116 = .ok (.iinc 7 1, 3) := by decide +kernel
theorem dX7_placesOf_119 : decode cX7_placesOf 119 = .ok (.goto (-42), 3) := by decide +kernel
theorem dX7_placesOf_122 : decode cX7_placesOf 122 = .ok (.iload 6, 2) := by decide +kernel
theorem dX7_placesOf_124 : decode cX7_placesOf 124 = .ok (.ifCond .eq 29, 3) := by decide +kernel
theorem dX7_placesOf_127 : decode cX7_placesOf 127 = .ok (.aload_n 0, 1) := by decide +kernel
theorem dX7_placesOf_128 : decode cX7_placesOf 128 = .ok (.getfield 27, 3) := by decide +kernel
theorem dX7_placesOf_131 : decode cX7_placesOf 131 = .ok (.iload_n 1, 1) := by decide +kernel
theorem dX7_placesOf_132 : decode cX7_placesOf 132 = .ok (.aload_n 0, 1) := by decide +kernel
theorem dX7_placesOf_133 : decode cX7_placesOf 133 = .ok (.getfield 30, 3) := by decide +kernel
theorem dX7_placesOf_136 : decode cX7_placesOf 136 = .ok (.iload_n 1, 1) := by decide +kernel
theorem dX7_placesOf_137 : decode cX7_placesOf 137 = .ok (.sipush 1400, 3) := by decide +kernel
theorem dX7_placesOf_140 : decode cX7_placesOf 140 = .ok (.imul, 1) := by decide +kernel
theorem dX7_placesOf_141 : decode cX7_placesOf 141 = .ok (.aload_n 0, 1) := by decide +kernel
theorem dX7_placesOf_142 : decode cX7_placesOf 142 = .ok (.getfield 27, 3) := by decide +kernel
theorem dX7_placesOf_145 : decode cX7_placesOf 145 = .ok (.iload_n 1, 1) := by decide +kernel
theorem dX7_placesOf_146 : decode cX7_placesOf 146 = .ok (.iaload, 1) := by decide +kernel
theorem dX7_placesOf_147 : decode cX7_placesOf 147 = .ok (.lload 4, 2) := by decide +kernel
theorem dX7_placesOf_149 : decode cX7_placesOf 149 = .ok (.invokestatic 120, 3) := by decide +kernel
theorem dX7_placesOf_152 : decode cX7_placesOf 152 = .ok (.iastore, 1) := by decide +kernel
theorem dX7_placesOf_153 : decode cX7_placesOf 153 = .ok (.iinc 3 1, 3) := by decide +kernel
theorem dX7_placesOf_156 : decode cX7_placesOf 156 = .ok (.goto (-130), 3) := by decide +kernel
theorem dX7_placesOf_159 : decode cX7_placesOf 159 = .ok (.iinc 2 1, 3) := by decide +kernel
theorem dX7_placesOf_162 : decode cX7_placesOf 162 = .ok (.goto (-148), 3) := by decide +kernel
theorem dX7_placesOf_165 : decode cX7_placesOf 165 = .ok (.return_, 1) := by decide +kernel
theorem dX7_places_0 : decode cX7_places 0 = .ok (.aload_n 0, 1) := by decide +kernel
theorem dX7_places_1 : decode cX7_places 1 = .ok (.iload_n 1, 1) := by decide +kernel
theorem dX7_places_2 : decode cX7_places 2 = .ok (.iconst 0, 1) := by decide +kernel
theorem dX7_places_3 : decode cX7_places 3 = .ok (.iconst 5, 1) := by decide +kernel
theorem dX7_places_4 : decode cX7_places 4 = .ok (.invokestatic 88, 3) := by decide +kernel
theorem dX7_places_7 : decode cX7_places 7 = .ok (.invokevirtual 96, 3) := by decide +kernel
theorem dX7_places_10 : decode cX7_places 10 = .ok (.ifCond .ne 5, 3) := by decide +kernel
theorem dX7_places_13 : decode cX7_places 13 = .ok (.iconst 0, 1) := by decide +kernel
theorem dX7_places_14 : decode cX7_places 14 = .ok (.ireturn, 1) := by decide +kernel
theorem dX7_places_15 : decode cX7_places 15 = .ok (.aload_n 0, 1) := by decide +kernel
theorem dX7_places_16 : decode cX7_places 16 = .ok (.iload_n 1, 1) := by decide +kernel
theorem dX7_places_17 : decode cX7_places 17 = .ok (.invokevirtual 132, 3) := by decide +kernel
theorem dX7_places_20 : decode cX7_places 20 = .ok (.aload_n 0, 1) := by decide +kernel
theorem dX7_places_21 : decode cX7_places 21 = .ok (.getfield 27, 3) := by decide +kernel
theorem dX7_places_24 : decode cX7_places 24 = .ok (.iload_n 1, 1) := by decide +kernel
theorem dX7_places_25 : decode cX7_places 25 = .ok (.iaload, 1) := by decide +kernel
theorem dX7_places_26 : decode cX7_places 26 = .ok (.ireturn, 1) := by decide +kernel
theorem dX7_begins_0 : decode cX7_begins 0 = .ok (.aload_n 0, 1) := by decide +kernel
theorem dX7_begins_1 : decode cX7_begins 1 = .ok (.getfield 42, 3) := by decide +kernel
theorem dX7_begins_4 : decode cX7_begins 4 = .ok (.iload_n 1, 1) := by decide +kernel
theorem dX7_begins_5 : decode cX7_begins 5 = .ok (.iconst (-1), 1) := by decide +kernel
theorem dX7_begins_6 : decode cX7_begins 6 = .ok (.iastore, 1) := by decide +kernel
theorem dX7_begins_7 : decode cX7_begins 7 = .ok (.bipush 63, 2) := by decide +kernel
theorem dX7_begins_9 : decode cX7_begins 9 = .ok (.istore_n 3, 1) := by decide +kernel
theorem dX7_begins_10 : decode cX7_begins 10 = .ok (.iload_n 3, 1) := by decide +kernel
theorem dX7_begins_11 : decode cX7_begins 11 = .ok (.ifCond .lt 39, 3) := by decide +kernel
theorem dX7_begins_14 : decode cX7_begins 14 = .ok (.aload_n 0, 1) := by decide +kernel
theorem dX7_begins_15 : decode cX7_begins 15 = .ok (.getfield 17, 3) := by decide +kernel
theorem dX7_begins_18 : decode cX7_begins 18 = .ok (.iload_n 3, 1) := by decide +kernel
theorem dX7_begins_19 : decode cX7_begins 19 = .ok (.iaload, 1) := by decide +kernel
theorem dX7_begins_20 : decode cX7_begins 20 = .ok (.iconst 1, 1) := by decide +kernel
theorem dX7_begins_21 : decode cX7_begins 21 = .ok (.if_icmp .ne 23, 3) := by decide +kernel
theorem dX7_begins_24 : decode cX7_begins 24 = .ok (.aload_n 0, 1) := by decide +kernel
theorem dX7_begins_25 : decode cX7_begins 25 = .ok (.getfield 36, 3) := by decide +kernel
theorem dX7_begins_28 : decode cX7_begins 28 = .ok (.iload_n 1, 1) := by decide +kernel
theorem dX7_begins_29 : decode cX7_begins 29 = .ok (.laload, 1) := by decide +kernel
theorem dX7_begins_30 : decode cX7_begins 30 = .ok (.iload_n 3, 1) := by decide +kernel
theorem dX7_begins_31 : decode cX7_begins 31 = .ok (.invokestatic 82, 3) := by decide +kernel
theorem dX7_begins_34 : decode cX7_begins 34 = .ok (.ifCond .ne 10, 3) := by decide +kernel
theorem dX7_begins_37 : decode cX7_begins 37 = .ok (.aload_n 0, 1) := by decide +kernel
theorem dX7_begins_38 : decode cX7_begins 38 = .ok (.getfield 42, 3) := by decide +kernel
theorem dX7_begins_41 : decode cX7_begins 41 = .ok (.iload_n 1, 1) := by decide +kernel
theorem dX7_begins_42 : decode cX7_begins 42 = .ok (.iload_n 3, 1) := by decide +kernel
theorem dX7_begins_43 : decode cX7_begins 43 = .ok (.iastore, 1) := by decide +kernel
theorem dX7_begins_44 : decode cX7_begins 44 = .ok (.iinc 3 (-1), 3) := by decide +kernel
theorem dX7_begins_47 : decode cX7_begins 47 = .ok (.goto (-37), 3) := by decide +kernel
theorem dX7_begins_50 : decode cX7_begins 50 = .ok (.iconst 0, 1) := by decide +kernel
theorem dX7_begins_51 : decode cX7_begins 51 = .ok (.istore_n 3, 1) := by decide +kernel
theorem dX7_begins_52 : decode cX7_begins 52 = .ok (.iload_n 3, 1) := by decide +kernel
theorem dX7_begins_53 : decode cX7_begins 53 = .ok (.bipush 6, 2) := by decide +kernel
theorem dX7_begins_55 : decode cX7_begins 55 = .ok (.if_icmp .ge 28, 3) := by decide +kernel
theorem dX7_begins_58 : decode cX7_begins 58 = .ok (.iload_n 2, 1) := by decide +kernel
theorem dX7_begins_59 : decode cX7_begins 59 = .ok (.iload_n 3, 1) := by decide +kernel
theorem dX7_begins_60 : decode cX7_begins 60 = .ok (.ishr, 1) := by decide +kernel
theorem dX7_begins_61 : decode cX7_begins 61 = .ok (.iconst 1, 1) := by decide +kernel
theorem dX7_begins_62 : decode cX7_begins 62 = .ok (.iand, 1) := by decide +kernel
theorem dX7_begins_63 : decode cX7_begins 63 = .ok (.aload_n 0, 1) := by decide +kernel
theorem dX7_begins_64 : decode cX7_begins 64 = .ok (.getfield 39, 3) := by decide +kernel
theorem dX7_begins_67 : decode cX7_begins 67 = .ok (.iload_n 1, 1) := by decide +kernel
theorem dX7_begins_68 : decode cX7_begins 68 = .ok (.iaload, 1) := by decide +kernel
theorem dX7_begins_69 : decode cX7_begins 69 = .ok (.iload_n 3, 1) := by decide +kernel
theorem dX7_begins_70 : decode cX7_begins 70 = .ok (.ishr, 1) := by decide +kernel
theorem dX7_begins_71 : decode cX7_begins 71 = .ok (.iconst (-1), 1) := by decide +kernel
theorem dX7_begins_72 : decode cX7_begins 72 = .ok (.ixor, 1) := by decide +kernel
theorem dX7_begins_73 : decode cX7_begins 73 = .ok (.iand, 1) := by decide +kernel
theorem dX7_begins_74 : decode cX7_begins 74 = .ok (.ifCond .ne 9, 3) := by decide +kernel
theorem dX7_begins_77 : decode cX7_begins 77 = .ok (.iinc 3 1, 3) := by decide +kernel
theorem dX7_begins_80 : decode cX7_begins 80 = .ok (.goto (-28), 3) := by decide +kernel
theorem dX7_begins_83 : decode cX7_begins 83 = .ok (.aload_n 0, 1) := by decide +kernel
theorem dX7_begins_84 : decode cX7_begins 84 = .ok (.getfield 45, 3) := by decide +kernel
theorem dX7_begins_87 : decode cX7_begins 87 = .ok (.iload_n 1, 1) := by decide +kernel
theorem dX7_begins_88 : decode cX7_begins 88 = .ok (.iload_n 3, 1) := by decide +kernel
theorem dX7_begins_89 : decode cX7_begins 89 = .ok (.iastore, 1) := by decide +kernel
theorem dX7_begins_90 : decode cX7_begins 90 = .ok (.aload_n 0, 1) := by decide +kernel
theorem dX7_begins_91 : decode cX7_begins 91 = .ok (.getfield 48, 3) := by decide +kernel
theorem dX7_begins_94 : decode cX7_begins 94 = .ok (.iload_n 1, 1) := by decide +kernel
theorem dX7_begins_95 : decode cX7_begins 95 = .ok (.iconst 0, 1) := by decide +kernel
theorem dX7_begins_96 : decode cX7_begins 96 = .ok (.iastore, 1) := by decide +kernel
theorem dX7_begins_97 : decode cX7_begins 97 = .ok (.return_, 1) := by decide +kernel
theorem dX7_search_0 : decode cX7_search 0 = .ok (.iconst 0, 1) := by decide +kernel
theorem dX7_search_1 : decode cX7_search 1 = .ok (.istore_n 3, 1) := by decide +kernel
theorem dX7_search_2 : decode cX7_search 2 = .ok (.iconst 0, 1) := by decide +kernel
theorem dX7_search_3 : decode cX7_search 3 = .ok (.istore 4, 2) := by decide +kernel
theorem dX7_search_5 : decode cX7_search 5 = .ok (.iload 4, 2) := by decide +kernel
theorem dX7_search_7 : decode cX7_search 7 = .ok (.bipush 6, 2) := by decide +kernel
theorem dX7_search_9 : decode cX7_search 9 = .ok (.if_icmp .ge 32, 3) := by decide +kernel
theorem dX7_search_12 : decode cX7_search 12 = .ok (.aload_n 0, 1) := by decide +kernel
theorem dX7_search_13 : decode cX7_search 13 = .ok (.iload 4, 2) := by decide +kernel
theorem dX7_search_15 : decode cX7_search 15 = .ok (.invokevirtual 132, 3) := by decide +kernel
theorem dX7_search_18 : decode cX7_search 18 = .ok (.aload_n 0, 1) := by decide +kernel
theorem dX7_search_19 : decode cX7_search 19 = .ok (.getfield 21, 3) := by decide +kernel
theorem dX7_search_22 : decode cX7_search 22 = .ok (.iload 4, 2) := by decide +kernel
theorem dX7_search_24 : decode cX7_search 24 = .ok (.iaload, 1) := by decide +kernel
theorem dX7_search_25 : decode cX7_search 25 = .ok (.ifCond .le 10, 3) := by decide +kernel
theorem dX7_search_28 : decode cX7_search 28 = .ok (.iload_n 3, 1) := by decide +kernel
theorem dX7_search_29 : decode cX7_search 29 = .ok (.iconst 1, 1) := by decide +kernel
theorem dX7_search_30 : decode cX7_search 30 = .ok (.iload 4, 2) := by decide +kernel
theorem dX7_search_32 : decode cX7_search 32 = .ok (.ishl, 1) := by decide +kernel
theorem dX7_search_33 : decode cX7_search 33 = .ok (.ior, 1) := by decide +kernel
theorem dX7_search_34 : decode cX7_search 34 = .ok (.istore_n 3, 1) := by decide +kernel
theorem dX7_search_35 : decode cX7_search 35 = .ok (.iinc 4 1, 3) := by decide +kernel
theorem dX7_search_38 : decode cX7_search 38 = .ok (.goto (-33), 3) := by decide +kernel
theorem dX7_search_41 : decode cX7_search 41 = .ok (.aload_n 0, 1) := by decide +kernel
theorem dX7_search_42 : decode cX7_search 42 = .ok (.iconst 0, 1) := by decide +kernel
theorem dX7_search_43 : decode cX7_search 43 = .ok (.putfield 135, 3) := by decide +kernel
theorem dX7_search_46 : decode cX7_search 46 = .ok (.iconst 0, 1) := by decide +kernel
theorem dX7_search_47 : decode cX7_search 47 = .ok (.istore 4, 2) := by decide +kernel
theorem dX7_search_49 : decode cX7_search 49 = .ok (.iconst 0, 1) := by decide +kernel
theorem dX7_search_50 : decode cX7_search 50 = .ok (.istore 5, 2) := by decide +kernel
theorem dX7_search_52 : decode cX7_search 52 = .ok (.aload_n 0, 1) := by decide +kernel
theorem dX7_search_53 : decode cX7_search 53 = .ok (.getfield 36, 3) := by decide +kernel
theorem dX7_search_56 : decode cX7_search 56 = .ok (.iconst 0, 1) := by decide +kernel
theorem dX7_search_57 : decode cX7_search 57 = .ok (.lconst 0, 1) := by decide +kernel
theorem dX7_search_58 : decode cX7_search 58 = .ok (.lastore, 1) := by decide +kernel
theorem dX7_search_59 : decode cX7_search 59 = .ok (.aload_n 0, 1) := by decide +kernel
theorem dX7_search_60 : decode cX7_search 60 = .ok (.getfield 39, 3) := by decide +kernel
theorem dX7_search_63 : decode cX7_search 63 = .ok (.iconst 0, 1) := by decide +kernel
theorem dX7_search_64 : decode cX7_search 64 = .ok (.iconst 0, 1) := by decide +kernel
theorem dX7_search_65 : decode cX7_search 65 = .ok (.iastore, 1) := by decide +kernel
theorem dX7_search_66 : decode cX7_search 66 = .ok (.aload_n 0, 1) := by decide +kernel
theorem dX7_search_67 : decode cX7_search 67 = .ok (.iconst 0, 1) := by decide +kernel
theorem dX7_search_68 : decode cX7_search 68 = .ok (.iload_n 3, 1) := by decide +kernel
theorem dX7_search_69 : decode cX7_search 69 = .ok (.invokevirtual 138, 3) := by decide +kernel
theorem dX7_search_72 : decode cX7_search 72 = .ok (.iload 5, 2) := by decide +kernel
theorem dX7_search_74 : decode cX7_search 74 = .ok (.ifCond .lt 385, 3) := by decide +kernel
theorem dX7_search_77 : decode cX7_search 77 = .ok (.aload_n 0, 1) := by decide +kernel
theorem dX7_search_78 : decode cX7_search 78 = .ok (.getfield 39, 3) := by decide +kernel
theorem dX7_search_81 : decode cX7_search 81 = .ok (.iload 5, 2) := by decide +kernel
theorem dX7_search_83 : decode cX7_search 83 = .ok (.iaload, 1) := by decide +kernel
theorem dX7_search_84 : decode cX7_search 84 = .ok (.iload_n 3, 1) := by decide +kernel
theorem dX7_search_85 : decode cX7_search 85 = .ok (.if_icmp .ne 7, 3) := by decide +kernel
theorem dX7_search_88 : decode cX7_search 88 = .ok (.iconst 1, 1) := by decide +kernel
theorem dX7_search_89 : decode cX7_search 89 = .ok (.goto 4, 3) := by decide +kernel
theorem dX7_search_92 : decode cX7_search 92 = .ok (.iconst 0, 1) := by decide +kernel
theorem dX7_search_93 : decode cX7_search 93 = .ok (.istore 6, 2) := by decide +kernel
theorem dX7_search_95 : decode cX7_search 95 = .ok (.iload 6, 2) := by decide +kernel
theorem dX7_search_97 : decode cX7_search 97 = .ok (.ifCond .eq 30, 3) := by decide +kernel
theorem dX7_search_100 : decode cX7_search 100 = .ok (.aload_n 0, 1) := by decide +kernel
theorem dX7_search_101 : decode cX7_search 101 = .ok (.getfield 42, 3) := by decide +kernel
theorem dX7_search_104 : decode cX7_search 104 = .ok (.iload 5, 2) := by decide +kernel
theorem dX7_search_106 : decode cX7_search 106 = .ok (.iaload, 1) := by decide +kernel
theorem dX7_search_107 : decode cX7_search 107 = .ok (.ifCond .ge 20, 3) := by decide +kernel
theorem dX7_search_110 : decode cX7_search 110 = .ok (.iinc 4 1, 3) := by decide +kernel
theorem dX7_search_113 : decode cX7_search 113 = .ok (.iload 4, 2) := by decide +kernel
theorem dX7_search_115 : decode cX7_search 115 = .ok (.iconst 1, 1) := by decide +kernel
theorem dX7_search_116 : decode cX7_search 116 = .ok (.isub, 1) := by decide +kernel
theorem dX7_search_117 : decode cX7_search 117 = .ok (.iload_n 2, 1) := by decide +kernel
theorem dX7_search_118 : decode cX7_search 118 = .ok (.if_icmp .ne 9, 3) := by decide +kernel
theorem dX7_search_121 : decode cX7_search 121 = .ok (.iload 5, 2) := by decide +kernel
theorem dX7_search_123 : decode cX7_search 123 = .ok (.ldc 142, 2) := by decide +kernel
theorem dX7_search_125 : decode cX7_search 125 = .ok (.iadd, 1) := by decide +kernel
theorem dX7_search_126 : decode cX7_search 126 = .ok (.ireturn, 1) := by decide +kernel
theorem dX7_search_127 : decode cX7_search 127 = .ok (.iconst 0, 1) := by decide +kernel
theorem dX7_search_128 : decode cX7_search 128 = .ok (.istore 7, 2) := by decide +kernel
theorem dX7_search_130 : decode cX7_search 130 = .ok (.iload 6, 2) := by decide +kernel
theorem dX7_search_132 : decode cX7_search 132 = .ok (.ifCond .ne 199, 3) := by decide +kernel
theorem dX7_search_135 : decode cX7_search 135 = .ok (.aload_n 0, 1) := by decide +kernel
theorem dX7_search_136 : decode cX7_search 136 = .ok (.getfield 45, 3) := by decide +kernel
theorem dX7_search_139 : decode cX7_search 139 = .ok (.iload 5, 2) := by decide +kernel
theorem dX7_search_141 : decode cX7_search 141 = .ok (.iaload, 1) := by decide +kernel
theorem dX7_search_142 : decode cX7_search 142 = .ok (.bipush 6, 2) := by decide +kernel
theorem dX7_search_144 : decode cX7_search 144 = .ok (.if_icmp .ge 187, 3) := by decide +kernel
theorem dX7_search_147 : decode cX7_search 147 = .ok (.iload 7, 2) := by decide +kernel
theorem dX7_search_149 : decode cX7_search 149 = .ok (.ifCond .ne 182, 3) := by decide +kernel
theorem dX7_search_152 : decode cX7_search 152 = .ok (.aload_n 0, 1) := by decide +kernel
theorem dX7_search_153 : decode cX7_search 153 = .ok (.getfield 45, 3) := by decide +kernel
theorem dX7_search_156 : decode cX7_search 156 = .ok (.iload 5, 2) := by decide +kernel
theorem dX7_search_158 : decode cX7_search 158 = .ok (.iaload, 1) := by decide +kernel
theorem dX7_search_159 : decode cX7_search 159 = .ok (.istore 8, 2) := by decide +kernel
theorem dX7_search_161 : decode cX7_search 161 = .ok (.aload_n 0, 1) := by decide +kernel
theorem dX7_search_162 : decode cX7_search 162 = .ok (.getfield 48, 3) := by decide +kernel
theorem dX7_search_165 : decode cX7_search 165 = .ok (.iload 5, 2) := by decide +kernel
theorem dX7_search_167 : decode cX7_search 167 = .ok (.iaload, 1) := by decide +kernel
theorem dX7_search_168 : decode cX7_search 168 = .ok (.aload_n 0, 1) := by decide +kernel
theorem dX7_search_169 : decode cX7_search 169 = .ok (.getfield 27, 3) := by decide +kernel
theorem dX7_search_172 : decode cX7_search 172 = .ok (.iload 8, 2) := by decide +kernel
theorem dX7_search_174 : decode cX7_search 174 = .ok (.iaload, 1) := by decide +kernel
theorem dX7_search_175 : decode cX7_search 175 = .ok (.if_icmp .ne 79, 3) := by decide +kernel
theorem dX7_search_178 : decode cX7_search 178 = .ok (.iload 8, 2) := by decide +kernel
theorem dX7_search_180 : decode cX7_search 180 = .ok (.iconst 1, 1) := by decide +kernel
theorem dX7_search_181 : decode cX7_search 181 = .ok (.iadd, 1) := by decide +kernel
theorem dX7_search_182 : decode cX7_search 182 = .ok (.istore 9, 2) := by decide +kernel
theorem dX7_search_184 : decode cX7_search 184 = .ok (.iload 9, 2) := by decide +kernel
theorem dX7_search_186 : decode cX7_search 186 = .ok (.bipush 6, 2) := by decide +kernel
theorem dX7_search_188 : decode cX7_search 188 = .ok (.if_icmp .ge 31, 3) := by decide +kernel
theorem dX7_search_191 : decode cX7_search 191 = .ok (.iload_n 3, 1) := by decide +kernel
theorem dX7_search_192 : decode cX7_search 192 = .ok (.iload 9, 2) := by decide +kernel
theorem dX7_search_194 : decode cX7_search 194 = .ok (.ishr, 1) := by decide +kernel
theorem dX7_search_195 : decode cX7_search 195 = .ok (.iconst 1, 1) := by decide +kernel
theorem dX7_search_196 : decode cX7_search 196 = .ok (.iand, 1) := by decide +kernel
theorem dX7_search_197 : decode cX7_search 197 = .ok (.aload_n 0, 1) := by decide +kernel
theorem dX7_search_198 : decode cX7_search 198 = .ok (.getfield 39, 3) := by decide +kernel
theorem dX7_search_201 : decode cX7_search 201 = .ok (.iload 5, 2) := by decide +kernel
theorem dX7_search_203 : decode cX7_search 203 = .ok (.iaload, 1) := by decide +kernel
theorem dX7_search_204 : decode cX7_search 204 = .ok (.iload 9, 2) := by decide +kernel
theorem dX7_search_206 : decode cX7_search 206 = .ok (.ishr, 1) := by decide +kernel
theorem dX7_search_207 : decode cX7_search 207 = .ok (.iconst (-1), 1) := by decide +kernel
theorem dX7_search_208 : decode cX7_search 208 = .ok (.ixor, 1) := by decide +kernel
theorem dX7_search_209 : decode cX7_search 209 = .ok (.iand, 1) := by decide +kernel
theorem dX7_search_210 : decode cX7_search 210 = .ok (.ifCond .ne 9, 3) := by decide +kernel
theorem dX7_search_213 : decode cX7_search 213 = .ok (.iinc 9 1, 3) := by decide +kernel
theorem dX7_search_216 : decode cX7_search 216 = .ok (.goto (-32), 3) := by decide +kernel
theorem dX7_search_219 : decode cX7_search 219 = .ok (.aload_n 0, 1) := by decide +kernel
theorem dX7_search_220 : decode cX7_search 220 = .ok (.getfield 45, 3) := by decide +kernel
theorem dX7_search_223 : decode cX7_search 223 = .ok (.iload 5, 2) := by decide +kernel
theorem dX7_search_225 : decode cX7_search 225 = .ok (.aload_n 0, 1) := by decide +kernel
theorem dX7_search_226 : decode cX7_search 226 = .ok (.getfield 42, 3) := by decide +kernel
theorem dX7_search_229 : decode cX7_search 229 = .ok (.iload 5, 2) := by decide +kernel
theorem dX7_search_231 : decode cX7_search 231 = .ok (.iaload, 1) := by decide +kernel
theorem dX7_search_232 : decode cX7_search 232 = .ok (.ifCond .ge 8, 3) := by decide +kernel
theorem dX7_search_235 : decode cX7_search 235 = .ok (.bipush 6, 2) := by decide +kernel
theorem dX7_search_237 : decode cX7_search 237 = .ok (.goto 5, 3) := by decide +kernel
theorem dX7_search_240 : decode cX7_search 240 = .ok (.iload 9, 2) := by decide +kernel
theorem dX7_search_242 : decode cX7_search 242 = .ok (.iastore, 1) := by decide +kernel
theorem dX7_search_243 : decode cX7_search 243 = .ok (.aload_n 0, 1) := by decide +kernel
theorem dX7_search_244 : decode cX7_search 244 = .ok (.getfield 48, 3) := by decide +kernel
theorem dX7_search_247 : decode cX7_search 247 = .ok (.iload 5, 2) := by decide +kernel
theorem dX7_search_249 : decode cX7_search 249 = .ok (.iconst 0, 1) := by decide +kernel
theorem dX7_search_250 : decode cX7_search 250 = .ok (.iastore, 1) := by decide +kernel
theorem dX7_search_251 : decode cX7_search 251 = .ok (.goto (-121), 3) := by decide +kernel
theorem dX7_search_254 : decode cX7_search 254 = .ok (.aload_n 0, 1) := by decide +kernel
theorem dX7_search_255 : decode cX7_search 255 = .ok (.getfield 51, 3) := by decide +kernel
theorem dX7_search_258 : decode cX7_search 258 = .ok (.iload 5, 2) := by decide +kernel
theorem dX7_search_260 : decode cX7_search 260 = .ok (.aload_n 0, 1) := by decide +kernel
theorem dX7_search_261 : decode cX7_search 261 = .ok (.getfield 30, 3) := by decide +kernel
theorem dX7_search_264 : decode cX7_search 264 = .ok (.iload 8, 2) := by decide +kernel
theorem dX7_search_266 : decode cX7_search 266 = .ok (.sipush 1400, 3) := by decide +kernel
theorem dX7_search_269 : decode cX7_search 269 = .ok (.imul, 1) := by decide +kernel
theorem dX7_search_270 : decode cX7_search 270 = .ok (.aload_n 0, 1) := by decide +kernel
theorem dX7_search_271 : decode cX7_search 271 = .ok (.getfield 48, 3) := by decide +kernel
theorem dX7_search_274 : decode cX7_search 274 = .ok (.iload 5, 2) := by decide +kernel
theorem dX7_search_276 : decode cX7_search 276 = .ok (.iaload, 1) := by decide +kernel
theorem dX7_search_277 : decode cX7_search 277 = .ok (.iadd, 1) := by decide +kernel
theorem dX7_search_278 : decode cX7_search 278 = .ok (.laload, 1) := by decide +kernel
theorem dX7_search_279 : decode cX7_search 279 = .ok (.lastore, 1) := by decide +kernel
theorem dX7_search_280 : decode cX7_search 280 = .ok (.aload_n 0, 1) := by decide +kernel
theorem dX7_search_281 : decode cX7_search 281 = .ok (.getfield 48, 3) := by decide +kernel
theorem dX7_search_284 : decode cX7_search 284 = .ok (.iload 5, 2) := by decide +kernel
theorem dX7_search_286 : decode cX7_search 286 = .ok (.dup2, 1) := by decide +kernel
theorem dX7_search_287 : decode cX7_search 287 = .ok (.iaload, 1) := by decide +kernel
theorem dX7_search_288 : decode cX7_search 288 = .ok (.iconst 1, 1) := by decide +kernel
theorem dX7_search_289 : decode cX7_search 289 = .ok (.iadd, 1) := by decide +kernel
theorem dX7_search_290 : decode cX7_search 290 = .ok (.iastore, 1) := by decide +kernel
theorem dX7_search_291 : decode cX7_search 291 = .ok (.aload_n 0, 1) := by decide +kernel
theorem dX7_search_292 : decode cX7_search 292 = .ok (.getfield 42, 3) := by decide +kernel
theorem dX7_search_295 : decode cX7_search 295 = .ok (.iload 5, 2) := by decide +kernel
theorem dX7_search_297 : decode cX7_search 297 = .ok (.iaload, 1) := by decide +kernel
theorem dX7_search_298 : decode cX7_search 298 = .ok (.ifCond .lt 23, 3) := by decide +kernel
theorem dX7_search_301 : decode cX7_search 301 = .ok (.aload_n 0, 1) := by decide +kernel
theorem dX7_search_302 : decode cX7_search 302 = .ok (.getfield 51, 3) := by decide +kernel
theorem dX7_search_305 : decode cX7_search 305 = .ok (.iload 5, 2) := by decide +kernel
