theorem dL_puts_0 : decode cL_puts 0 = .ok (.iload 4, 2) := by decide +kernel
theorem dL_puts_2 : decode cL_puts 2 = .ok (.ifCond .ne 7, 3) := by decide +kernel
theorem dL_puts_5 : decode cL_puts 5 = .ok (.lload_n 0, 1) := by decide +kernel
theorem dL_puts_6 : decode cL_puts 6 = .ok (.goto 4, 3) := by decide +kernel
theorem dL_puts_9 : decode cL_puts 9 = .ok (.lload_n 2, 1) := by decide +kernel
theorem dL_puts_10 : decode cL_puts 10 = .ok (.lconst 1, 1) := by decide +kernel
theorem dL_puts_11 : decode cL_puts 11 = .ok (.iload 5, 2) := by decide +kernel
theorem dL_puts_13 : decode cL_puts 13 = .ok (.lshl, 1) := by decide +kernel
theorem dL_puts_14 : decode cL_puts 14 = .ok (.lor, 1) := by decide +kernel
theorem dL_puts_15 : decode cL_puts 15 = .ok (.lstore 7, 2) := by decide +kernel
theorem dL_puts_17 : decode cL_puts 17 = .ok (.iload 4, 2) := by decide +kernel
theorem dL_puts_19 : decode cL_puts 19 = .ok (.ifCond .ne 7, 3) := by decide +kernel
theorem dL_puts_22 : decode cL_puts 22 = .ok (.lload_n 2, 1) := by decide +kernel
theorem dL_puts_23 : decode cL_puts 23 = .ok (.goto 4, 3) := by decide +kernel
theorem dL_puts_26 : decode cL_puts 26 = .ok (.lload_n 0, 1) := by decide +kernel
theorem dL_puts_27 : decode cL_puts 27 = .ok (.lstore 9, 2) := by decide +kernel
theorem dL_puts_29 : decode cL_puts 29 = .ok (.lconst 0, 1) := by decide +kernel
theorem dL_puts_30 : decode cL_puts 30 = .ok (.lstore 11, 2) := by decide +kernel
theorem dL_puts_32 : decode cL_puts 32 = .ok (.iconst 0, 1) := by decide +kernel
theorem dL_puts_33 : decode cL_puts 33 = .ok (.istore 13, 2) := by decide +kernel
theorem dL_puts_35 : decode cL_puts 35 = .ok (.iload 13, 2) := by decide +kernel
theorem dL_puts_37 : decode cL_puts 37 = .ok (.bipush 49, 2) := by decide +kernel
theorem dL_puts_39 : decode cL_puts 39 = .ok (.if_icmp .ge 73, 3) := by decide +kernel
theorem dL_puts_42 : decode cL_puts 42 = .ok (.lload 9, 2) := by decide +kernel
theorem dL_puts_44 : decode cL_puts 44 = .ok (.iload 13, 2) := by decide +kernel
theorem dL_puts_46 : decode cL_puts 46 = .ok (.lshr, 1) := by decide +kernel
theorem dL_puts_47 : decode cL_puts 47 = .ok (.lconst 1, 1) := by decide +kernel
theorem dL_puts_48 : decode cL_puts 48 = .ok (.land, 1) := by decide +kernel
theorem dL_puts_49 : decode cL_puts 49 = .ok (.lconst 1, 1) := by decide +kernel
theorem dL_puts_50 : decode cL_puts 50 = .ok (.lcmp, 1) := by decide +kernel
theorem dL_puts_51 : decode cL_puts 51 = .ok (.ifCond .ne 55, 3) := by decide +kernel
theorem dL_puts_54 : decode cL_puts 54 = .ok (.lload 11, 2) := by decide +kernel
theorem dL_puts_56 : decode cL_puts 56 = .ok (.iload 13, 2) := by decide +kernel
theorem dL_puts_58 : decode cL_puts 58 = .ok (.lshr, 1) := by decide +kernel
theorem dL_puts_59 : decode cL_puts 59 = .ok (.lconst 1, 1) := by decide +kernel
theorem dL_puts_60 : decode cL_puts 60 = .ok (.land, 1) := by decide +kernel
theorem dL_puts_61 : decode cL_puts 61 = .ok (.lconst 0, 1) := by decide +kernel
theorem dL_puts_62 : decode cL_puts 62 = .ok (.lcmp, 1) := by decide +kernel
theorem dL_puts_63 : decode cL_puts 63 = .ok (.ifCond .ne 43, 3) := by decide +kernel
theorem dL_puts_66 : decode cL_puts 66 = .ok (.lload 9, 2) := by decide +kernel
theorem dL_puts_68 : decode cL_puts 68 = .ok (.iload 13, 2) := by decide +kernel
theorem dL_puts_70 : decode cL_puts 70 = .ok (.invokestatic 102, 3) := by decide +kernel
theorem dL_puts_73 : decode cL_puts 73 = .ok (.lstore 14, 2) := by decide +kernel
theorem dL_puts_75 : decode cL_puts 75 = .ok (.lload 11, 2) := by decide +kernel
theorem dL_puts_77 : decode cL_puts 77 = .ok (.lload 14, 2) := by decide +kernel
theorem dL_puts_79 : decode cL_puts 79 = .ok (.invokestatic 96, 3) := by decide +kernel
theorem dL_puts_82 : decode cL_puts 82 = .ok (.lload 7, 2) := by decide +kernel
theorem dL_puts_84 : decode cL_puts 84 = .ok (.lload 9, 2) := by decide +kernel
theorem dL_puts_86 : decode cL_puts 86 = .ok (.lor, 1) := by decide +kernel
theorem dL_puts_87 : decode cL_puts 87 = .ok (.ldc2_w 92, 3) := by decide +kernel
theorem dL_puts_90 : decode cL_puts 90 = .ok (.lxor, 1) := by decide +kernel
theorem dL_puts_91 : decode cL_puts 91 = .ok (.land, 1) := by decide +kernel
theorem dL_puts_92 : decode cL_puts 92 = .ok (.lconst 0, 1) := by decide +kernel
theorem dL_puts_93 : decode cL_puts 93 = .ok (.lcmp, 1) := by decide +kernel
theorem dL_puts_94 : decode cL_puts 94 = .ok (.ifCond .ne 8, 3) := by decide +kernel
theorem dL_puts_97 : decode cL_puts 97 = .ok (.lload 14, 2) := by decide +kernel
theorem dL_puts_99 : decode cL_puts 99 = .ok (.goto 4, 3) := by decide +kernel
theorem dL_puts_102 : decode cL_puts 102 = .ok (.lconst 0, 1) := by decide +kernel
theorem dL_puts_103 : decode cL_puts 103 = .ok (.lor, 1) := by decide +kernel
theorem dL_puts_104 : decode cL_puts 104 = .ok (.lstore 11, 2) := by decide +kernel
theorem dL_puts_106 : decode cL_puts 106 = .ok (.iinc 13 1, 3) := by decide +kernel
theorem dL_puts_109 : decode cL_puts 109 = .ok (.goto (-74), 3) := by decide +kernel
theorem dL_puts_112 : decode cL_puts 112 = .ok (.lload 9, 2) := by decide +kernel
theorem dL_puts_114 : decode cL_puts 114 = .ok (.lload 11, 2) := by decide +kernel
theorem dL_puts_116 : decode cL_puts 116 = .ok (.ldc2_w 92, 3) := by decide +kernel
theorem dL_puts_119 : decode cL_puts 119 = .ok (.lxor, 1) := by decide +kernel
theorem dL_puts_120 : decode cL_puts 120 = .ok (.land, 1) := by decide +kernel
theorem dL_puts_121 : decode cL_puts 121 = .ok (.lstore 9, 2) := by decide +kernel
theorem dL_puts_123 : decode cL_puts 123 = .ok (.aload 6, 2) := by decide +kernel
theorem dL_puts_125 : decode cL_puts 125 = .ok (.iconst 0, 1) := by decide +kernel
theorem dL_puts_126 : decode cL_puts 126 = .ok (.iload 4, 2) := by decide +kernel
theorem dL_puts_128 : decode cL_puts 128 = .ok (.ifCond .ne 8, 3) := by decide +kernel
theorem dL_puts_131 : decode cL_puts 131 = .ok (.lload 7, 2) := by decide +kernel
theorem dL_puts_133 : decode cL_puts 133 = .ok (.goto 5, 3) := by decide +kernel
theorem dL_puts_136 : decode cL_puts 136 = .ok (.lload 9, 2) := by decide +kernel
theorem dL_puts_138 : decode cL_puts 138 = .ok (.lastore, 1) := by decide +kernel
theorem dL_puts_139 : decode cL_puts 139 = .ok (.aload 6, 2) := by decide +kernel
theorem dL_puts_141 : decode cL_puts 141 = .ok (.iconst 1, 1) := by decide +kernel
theorem dL_puts_142 : decode cL_puts 142 = .ok (.iload 4, 2) := by decide +kernel
theorem dL_puts_144 : decode cL_puts 144 = .ok (.ifCond .ne 8, 3) := by decide +kernel
theorem dL_puts_147 : decode cL_puts 147 = .ok (.lload 9, 2) := by decide +kernel
theorem dL_puts_149 : decode cL_puts 149 = .ok (.goto 5, 3) := by decide +kernel
theorem dL_puts_152 : decode cL_puts 152 = .ok (.lload 7, 2) := by decide +kernel
theorem dL_puts_154 : decode cL_puts 154 = .ok (.lastore, 1) := by decide +kernel
theorem dL_puts_155 : decode cL_puts 155 = .ok (.lload 7, 2) := by decide +kernel
theorem dL_puts_157 : decode cL_puts 157 = .ok (.iload 5, 2) := by decide +kernel
theorem dL_puts_159 : decode cL_puts 159 = .ok (.invokestatic 102, 3) := by decide +kernel
theorem dL_puts_162 : decode cL_puts 162 = .ok (.invokestatic 96, 3) := by decide +kernel
theorem dL_puts_165 : decode cL_puts 165 = .ok (.lload 7, 2) := by decide +kernel
theorem dL_puts_167 : decode cL_puts 167 = .ok (.lload 9, 2) := by decide +kernel
theorem dL_puts_169 : decode cL_puts 169 = .ok (.lor, 1) := by decide +kernel
theorem dL_puts_170 : decode cL_puts 170 = .ok (.ldc2_w 92, 3) := by decide +kernel
theorem dL_puts_173 : decode cL_puts 173 = .ok (.lxor, 1) := by decide +kernel
theorem dL_puts_174 : decode cL_puts 174 = .ok (.land, 1) := by decide +kernel
theorem dL_puts_175 : decode cL_puts 175 = .ok (.lconst 0, 1) := by decide +kernel
theorem dL_puts_176 : decode cL_puts 176 = .ok (.lcmp, 1) := by decide +kernel
theorem dL_puts_177 : decode cL_puts 177 = .ok (.ifCond .ne 7, 3) := by decide +kernel
theorem dL_puts_180 : decode cL_puts 180 = .ok (.iconst (-1), 1) := by decide +kernel
theorem dL_puts_181 : decode cL_puts 181 = .ok (.goto 8, 3) := by decide +kernel
theorem dL_puts_184 : decode cL_puts 184 = .ok (.lload 11, 2) := by decide +kernel
theorem dL_puts_186 : decode cL_puts 186 = .ok (.invokestatic 106, 3) := by decide +kernel
theorem dL_puts_189 : decode cL_puts 189 = .ok (.ireturn, 1) := by decide +kernel
theorem dL_latest_0 : decode cL_latest 0 = .ok (.iconst 0, 1) := by decide +kernel
theorem dL_latest_1 : decode cL_latest 1 = .ok (.istore_n 3, 1) := by decide +kernel
theorem dL_latest_2 : decode cL_latest 2 = .ok (.iconst 0, 1) := by decide +kernel
theorem dL_latest_3 : decode cL_latest 3 = .ok (.istore 4, 2) := by decide +kernel
theorem dL_latest_5 : decode cL_latest 5 = .ok (.iload 4, 2) := by decide +kernel
theorem dL_latest_7 : decode cL_latest 7 = .ok (.aload_n 1, 1) := by decide +kernel
theorem dL_latest_8 : decode cL_latest 8 = .ok (.iconst 2, 1) := by decide +kernel
theorem dL_latest_9 : decode cL_latest 9 = .ok (.iaload, 1) := by decide +kernel
theorem dL_latest_10 : decode cL_latest 10 = .ok (.if_icmp .ge 24, 3) := by decide +kernel
theorem dL_latest_13 : decode cL_latest 13 = .ok (.aload_n 0, 1) := by decide +kernel
theorem dL_latest_14 : decode cL_latest 14 = .ok (.iload 4, 2) := by decide +kernel
theorem dL_latest_16 : decode cL_latest 16 = .ok (.iaload, 1) := by decide +kernel
theorem dL_latest_17 : decode cL_latest 17 = .ok (.iload_n 2, 1) := by decide +kernel
theorem dL_latest_18 : decode cL_latest 18 = .ok (.if_icmp .ne 8, 3) := by decide +kernel
theorem dL_latest_21 : decode cL_latest 21 = .ok (.iload 4, 2) := by decide +kernel
theorem dL_latest_23 : decode cL_latest 23 = .ok (.goto 4, 3) := by decide +kernel
theorem dL_latest_26 : decode cL_latest 26 = .ok (.iload_n 3, 1) := by decide +kernel
theorem dL_latest_27 : decode cL_latest 27 = .ok (.istore_n 3, 1) := by decide +kernel
theorem dL_latest_28 : decode cL_latest 28 = .ok (.iinc 4 1, 3) := by decide +kernel
theorem dL_latest_31 : decode cL_latest 31 = .ok (.goto (-26), 3) := by decide +kernel
theorem dL_latest_34 : decode cL_latest 34 = .ok (.iload_n 3, 1) := by decide +kernel
theorem dL_latest_35 : decode cL_latest 35 = .ok (.ireturn, 1) := by decide +kernel
theorem dL_side_0 : decode cL_side 0 = .ok (.aload_n 0, 1) := by decide +kernel
theorem dL_side_1 : decode cL_side 1 = .ok (.bipush 16, 2) := by decide +kernel
theorem dL_side_3 : decode cL_side 3 = .ok (.iload_n 2, 1) := by decide +kernel
theorem dL_side_4 : decode cL_side 4 = .ok (.iadd, 1) := by decide +kernel
theorem dL_side_5 : decode cL_side 5 = .ok (.iaload, 1) := by decide +kernel
theorem dL_side_6 : decode cL_side 6 = .ok (.bipush 10, 2) := by decide +kernel
theorem dL_side_8 : decode cL_side 8 = .ok (.irem, 1) := by decide +kernel
theorem dL_side_9 : decode cL_side 9 = .ok (.iconst 1, 1) := by decide +kernel
theorem dL_side_10 : decode cL_side 10 = .ok (.if_icmp .le 7, 3) := by decide +kernel
theorem dL_side_13 : decode cL_side 13 = .ok (.iconst 1, 1) := by decide +kernel
theorem dL_side_14 : decode cL_side 14 = .ok (.goto 4, 3) := by decide +kernel
theorem dL_side_17 : decode cL_side 17 = .ok (.iconst 0, 1) := by decide +kernel
theorem dL_side_18 : decode cL_side 18 = .ok (.aload_n 1, 1) := by decide +kernel
theorem dL_side_19 : decode cL_side 19 = .ok (.iload_n 2, 1) := by decide +kernel
theorem dL_side_20 : decode cL_side 20 = .ok (.iaload, 1) := by decide +kernel
theorem dL_side_21 : decode cL_side 21 = .ok (.iadd, 1) := by decide +kernel
theorem dL_side_22 : decode cL_side 22 = .ok (.iconst 2, 1) := by decide +kernel
theorem dL_side_23 : decode cL_side 23 = .ok (.irem, 1) := by decide +kernel
theorem dL_side_24 : decode cL_side 24 = .ok (.ireturn, 1) := by decide +kernel
theorem dL_score_0 : decode cL_score 0 = .ok (.lload_n 0, 1) := by decide +kernel
theorem dL_score_1 : decode cL_score 1 = .ok (.invokestatic 106, 3) := by decide +kernel
theorem dL_score_4 : decode cL_score 4 = .ok (.lload_n 2, 1) := by decide +kernel
theorem dL_score_5 : decode cL_score 5 = .ok (.invokestatic 106, 3) := by decide +kernel
theorem dL_score_8 : decode cL_score 8 = .ok (.isub, 1) := by decide +kernel
theorem dL_score_9 : decode cL_score 9 = .ok (.iload 4, 2) := by decide +kernel
theorem dL_score_11 : decode cL_score 11 = .ok (.ifCond .ne 8, 3) := by decide +kernel
theorem dL_score_14 : decode cL_score 14 = .ok (.bipush 6, 2) := by decide +kernel
theorem dL_score_16 : decode cL_score 16 = .ok (.goto 4, 3) := by decide +kernel
theorem dL_score_19 : decode cL_score 19 = .ok (.iconst 0, 1) := by decide +kernel
theorem dL_score_20 : decode cL_score 20 = .ok (.isub, 1) := by decide +kernel
theorem dL_score_21 : decode cL_score 21 = .ok (.istore 5, 2) := by decide +kernel
theorem dL_score_23 : decode cL_score 23 = .ok (.ldc2_w 94, 3) := by decide +kernel
theorem dL_score_26 : decode cL_score 26 = .ok (.lload_n 0, 1) := by decide +kernel
theorem dL_score_27 : decode cL_score 27 = .ok (.lload_n 2, 1) := by decide +kernel
theorem dL_score_28 : decode cL_score 28 = .ok (.lor, 1) := by decide +kernel
theorem dL_score_29 : decode cL_score 29 = .ok (.ldc2_w 92, 3) := by decide +kernel
theorem dL_score_32 : decode cL_score 32 = .ok (.lxor, 1) := by decide +kernel
theorem dL_score_33 : decode cL_score 33 = .ok (.land, 1) := by decide +kernel
theorem dL_score_34 : decode cL_score 34 = .ok (.lstore 6, 2) := by decide +kernel
theorem dL_score_36 : decode cL_score 36 = .ok (.iconst 0, 1) := by decide +kernel
theorem dL_score_37 : decode cL_score 37 = .ok (.istore 8, 2) := by decide +kernel
theorem dL_score_39 : decode cL_score 39 = .ok (.iload 8, 2) := by decide +kernel
theorem dL_score_41 : decode cL_score 41 = .ok (.bipush 49, 2) := by decide +kernel
theorem dL_score_43 : decode cL_score 43 = .ok (.if_icmp .ge 83, 3) := by decide +kernel
theorem dL_score_46 : decode cL_score 46 = .ok (.lload 6, 2) := by decide +kernel
theorem dL_score_48 : decode cL_score 48 = .ok (.iload 8, 2) := by decide +kernel
theorem dL_score_50 : decode cL_score 50 = .ok (.lshr, 1) := by decide +kernel
theorem dL_score_51 : decode cL_score 51 = .ok (.lconst 1, 1) := by decide +kernel
theorem dL_score_52 : decode cL_score 52 = .ok (.land, 1) := by decide +kernel
theorem dL_score_53 : decode cL_score 53 = .ok (.lconst 1, 1) := by decide +kernel
theorem dL_score_54 : decode cL_score 54 = .ok (.lcmp, 1) := by decide +kernel
theorem dL_score_55 : decode cL_score 55 = .ok (.ifCond .ne 65, 3) := by decide +kernel
theorem dL_score_58 : decode cL_score 58 = .ok (.lload 6, 2) := by decide +kernel
theorem dL_score_60 : decode cL_score 60 = .ok (.iload 8, 2) := by decide +kernel
theorem dL_score_62 : decode cL_score 62 = .ok (.invokestatic 102, 3) := by decide +kernel
theorem dL_score_65 : decode cL_score 65 = .ok (.invokestatic 96, 3) := by decide +kernel
theorem dL_score_68 : decode cL_score 68 = .ok (.lstore 9, 2) := by decide +kernel
theorem dL_score_70 : decode cL_score 70 = .ok (.iload 5, 2) := by decide +kernel
theorem dL_score_72 : decode cL_score 72 = .ok (.lload 9, 2) := by decide +kernel
theorem dL_score_74 : decode cL_score 74 = .ok (.lload_n 0, 1) := by decide +kernel
theorem dL_score_75 : decode cL_score 75 = .ok (.land, 1) := by decide +kernel
theorem dL_score_76 : decode cL_score 76 = .ok (.lconst 0, 1) := by decide +kernel
theorem dL_score_77 : decode cL_score 77 = .ok (.lcmp, 1) := by decide +kernel
theorem dL_score_78 : decode cL_score 78 = .ok (.ifCond .eq 16, 3) := by decide +kernel
theorem dL_score_81 : decode cL_score 81 = .ok (.lload 9, 2) := by decide +kernel
theorem dL_score_83 : decode cL_score 83 = .ok (.lload_n 2, 1) := by decide +kernel
theorem dL_score_84 : decode cL_score 84 = .ok (.land, 1) := by decide +kernel
theorem dL_score_85 : decode cL_score 85 = .ok (.lconst 0, 1) := by decide +kernel
theorem dL_score_86 : decode cL_score 86 = .ok (.lcmp, 1) := by decide +kernel
theorem dL_score_87 : decode cL_score 87 = .ok (.ifCond .ne 7, 3) := by decide +kernel
theorem dL_score_90 : decode cL_score 90 = .ok (.iconst 1, 1) := by decide +kernel
theorem dL_score_91 : decode cL_score 91 = .ok (.goto 26, 3) := by decide +kernel
theorem dL_score_94 : decode cL_score 94 = .ok (.lload 9, 2) := by decide +kernel
theorem dL_score_96 : decode cL_score 96 = .ok (.lload_n 2, 1) := by decide +kernel
theorem dL_score_97 : decode cL_score 97 = .ok (.land, 1) := by decide +kernel
theorem dL_score_98 : decode cL_score 98 = .ok (.lconst 0, 1) := by decide +kernel
theorem dL_score_99 : decode cL_score 99 = .ok (.lcmp, 1) := by decide +kernel
theorem dL_score_100 : decode cL_score 100 = .ok (.ifCond .eq 16, 3) := by decide +kernel
theorem dL_score_103 : decode cL_score 103 = .ok (.lload 9, 2) := by decide +kernel
theorem dL_score_105 : decode cL_score 105 = .ok (.lload_n 0, 1) := by decide +kernel
theorem dL_score_106 : decode cL_score 106 = .ok (.land, 1) := by decide +kernel
theorem dL_score_107 : decode cL_score 107 = .ok (.lconst 0, 1) := by decide +kernel
theorem dL_score_108 : decode cL_score 108 = .ok (.lcmp, 1) := by decide +kernel
theorem dL_score_109 : decode cL_score 109 = .ok (.ifCond .ne 7, 3) := by decide +kernel
theorem dL_score_112 : decode cL_score 112 = .ok (.iconst (-1), 1) := by decide +kernel
theorem dL_score_113 : decode cL_score 113 = .ok (.goto 4, 3) := by decide +kernel
theorem dL_score_116 : decode cL_score 116 = .ok (.iconst 0, 1) := by decide +kernel
theorem dL_score_117 : decode cL_score 117 = .ok (.iadd, 1) := by decide +kernel
theorem dL_score_118 : decode cL_score 118 = .ok (.istore 5, 2) := by decide +kernel
theorem dL_score_120 : decode cL_score 120 = .ok (.iinc 8 1, 3) := by decide +kernel
theorem dL_score_123 : decode cL_score 123 = .ok (.goto (-84), 3) := by decide +kernel
theorem dL_score_126 : decode cL_score 126 = .ok (.iload 5, 2) := by decide +kernel
theorem dL_score_128 : decode cL_score 128 = .ok (.ireturn, 1) := by decide +kernel
theorem dL_grows_0 : decode cL_grows 0 = .ok (.aload_n 0, 1) := by decide +kernel
theorem dL_grows_1 : decode cL_grows 1 = .ok (.iconst 3, 1) := by decide +kernel
theorem dL_grows_2 : decode cL_grows 2 = .ok (.iload_n 1, 1) := by decide +kernel
theorem dL_grows_3 : decode cL_grows 3 = .ok (.imul, 1) := by decide +kernel
theorem dL_grows_4 : decode cL_grows 4 = .ok (.iconst 2, 1) := by decide +kernel
theorem dL_grows_5 : decode cL_grows 5 = .ok (.iadd, 1) := by decide +kernel
theorem dL_grows_6 : decode cL_grows 6 = .ok (.iaload, 1) := by decide +kernel
theorem dL_grows_7 : decode cL_grows 7 = .ok (.istore_n 3, 1) := by decide +kernel
theorem dL_grows_8 : decode cL_grows 8 = .ok (.iload_n 3, 1) := by decide +kernel
theorem dL_grows_9 : decode cL_grows 9 = .ok (.iload_n 2, 1) := by decide +kernel
theorem dL_grows_10 : decode cL_grows 10 = .ok (.imul, 1) := by decide +kernel
theorem dL_grows_11 : decode cL_grows 11 = .ok (.ifCond .le 9, 3) := by decide +kernel
theorem dL_grows_14 : decode cL_grows 14 = .ok (.iload_n 3, 1) := by decide +kernel
theorem dL_grows_15 : decode cL_grows 15 = .ok (.iload_n 2, 1) := by decide +kernel
theorem dL_grows_16 : decode cL_grows 16 = .ok (.iadd, 1) := by decide +kernel
theorem dL_grows_17 : decode cL_grows 17 = .ok (.goto 4, 3) := by decide +kernel
theorem dL_grows_20 : decode cL_grows 20 = .ok (.iload_n 2, 1) := by decide +kernel
theorem dL_grows_21 : decode cL_grows 21 = .ok (.istore_n 3, 1) := by decide +kernel
theorem dL_grows_22 : decode cL_grows 22 = .ok (.iload_n 3, 1) := by decide +kernel
theorem dL_grows_23 : decode cL_grows 23 = .ok (.iload_n 2, 1) := by decide +kernel
theorem dL_grows_24 : decode cL_grows 24 = .ok (.imul, 1) := by decide +kernel
theorem dL_grows_25 : decode cL_grows 25 = .ok (.iconst 3, 1) := by decide +kernel
theorem dL_grows_26 : decode cL_grows 26 = .ok (.if_icmp .ne 46, 3) := by decide +kernel
theorem dL_grows_29 : decode cL_grows 29 = .ok (.aload_n 0, 1) := by decide +kernel
theorem dL_grows_30 : decode cL_grows 30 = .ok (.iconst 3, 1) := by decide +kernel
theorem dL_grows_31 : decode cL_grows 31 = .ok (.iload_n 1, 1) := by decide +kernel
theorem dL_grows_32 : decode cL_grows 32 = .ok (.imul, 1) := by decide +kernel
theorem dL_grows_33 : decode cL_grows 33 = .ok (.iconst 1, 1) := by decide +kernel
theorem dL_grows_34 : decode cL_grows 34 = .ok (.iadd, 1) := by decide +kernel
theorem dL_grows_35 : decode cL_grows 35 = .ok (.iaload, 1) := by decide +kernel
theorem dL_grows_36 : decode cL_grows 36 = .ok (.iload_n 2, 1) := by decide +kernel
theorem dL_grows_37 : decode cL_grows 37 = .ok (.iadd, 1) := by decide +kernel
theorem dL_grows_38 : decode cL_grows 38 = .ok (.istore 4, 2) := by decide +kernel
theorem dL_grows_40 : decode cL_grows 40 = .ok (.aload_n 0, 1) := by decide +kernel
theorem dL_grows_41 : decode cL_grows 41 = .ok (.iconst 3, 1) := by decide +kernel
theorem dL_grows_42 : decode cL_grows 42 = .ok (.iload_n 1, 1) := by decide +kernel
theorem dL_grows_43 : decode cL_grows 43 = .ok (.imul, 1) := by decide +kernel
theorem dL_grows_44 : decode cL_grows 44 = .ok (.iconst 1, 1) := by decide +kernel
theorem dL_grows_45 : decode cL_grows 45 = .ok (.iadd, 1) := by decide +kernel
theorem dL_grows_46 : decode cL_grows 46 = .ok (.iload 4, 2) := by decide +kernel
theorem dL_grows_48 : decode cL_grows 48 = .ok (.ifCond .ge 7, 3) := by decide +kernel
theorem dL_grows_51 : decode cL_grows 51 = .ok (.iconst 0, 1) := by decide +kernel
theorem dL_grows_52 : decode cL_grows 52 = .ok (.goto 17, 3) := by decide +kernel
theorem dL_grows_55 : decode cL_grows 55 = .ok (.iload 4, 2) := by decide +kernel
theorem dL_grows_57 : decode cL_grows 57 = .ok (.bipush 20, 2) := by decide +kernel
theorem dL_grows_59 : decode cL_grows 59 = .ok (.if_icmp .le 8, 3) := by decide +kernel
theorem dL_grows_62 : decode cL_grows 62 = .ok (.bipush 20, 2) := by decide +kernel
theorem dL_grows_64 : decode cL_grows 64 = .ok (.goto 5, 3) := by decide +kernel
theorem dL_grows_67 : decode cL_grows 67 = .ok (.iload 4, 2) := by decide +kernel
theorem dL_grows_69 : decode cL_grows 69 = .ok (.iastore, 1) := by decide +kernel
theorem dL_grows_70 : decode cL_grows 70 = .ok (.iconst 0, 1) := by decide +kernel
theorem dL_grows_71 : decode cL_grows 71 = .ok (.istore_n 3, 1) := by decide +kernel
theorem dL_grows_72 : decode cL_grows 72 = .ok (.aload_n 0, 1) := by decide +kernel
theorem dL_grows_73 : decode cL_grows 73 = .ok (.iconst 3, 1) := by decide +kernel
theorem dL_grows_74 : decode cL_grows 74 = .ok (.iload_n 1, 1) := by decide +kernel
theorem dL_grows_75 : decode cL_grows 75 = .ok (.imul, 1) := by decide +kernel
theorem dL_grows_76 : decode cL_grows 76 = .ok (.iconst 2, 1) := by decide +kernel
theorem dL_grows_77 : decode cL_grows 77 = .ok (.iadd, 1) := by decide +kernel
theorem dL_grows_78 : decode cL_grows 78 = .ok (.iload_n 3, 1) := by decide +kernel
theorem dL_grows_79 : decode cL_grows 79 = .ok (.iastore, 1) := by decide +kernel
theorem dL_grows_80 : decode cL_grows 80 = .ok (.return_, 1) := by decide +kernel
theorem dL_finds_0 : decode cL_finds 0 = .ok (.iconst 0, 1) := by decide +kernel
theorem dL_finds_1 : decode cL_finds 1 = .ok (.istore 5, 2) := by decide +kernel
theorem dL_finds_3 : decode cL_finds 3 = .ok (.iload 5, 2) := by decide +kernel
theorem dL_finds_5 : decode cL_finds 5 = .ok (.aload_n 3, 1) := by decide +kernel
theorem dL_finds_6 : decode cL_finds 6 = .ok (.iconst 0, 1) := by decide +kernel
theorem dL_finds_7 : decode cL_finds 7 = .ok (.iaload, 1) := by decide +kernel
theorem dL_finds_8 : decode cL_finds 8 = .ok (.if_icmp .ge 32, 3) := by decide +kernel
theorem dL_finds_11 : decode cL_finds 11 = .ok (.aload_n 0, 1) := by decide +kernel
theorem dL_finds_12 : decode cL_finds 12 = .ok (.iconst 3, 1) := by decide +kernel
theorem dL_finds_13 : decode cL_finds 13 = .ok (.iload 5, 2) := by decide +kernel
theorem dL_finds_15 : decode cL_finds 15 = .ok (.imul, 1) := by decide +kernel
theorem dL_finds_16 : decode cL_finds 16 = .ok (.iconst 1, 1) := by decide +kernel
theorem dL_finds_17 : decode cL_finds 17 = .ok (.iadd, 1) := by decide +kernel
theorem dL_finds_18 : decode cL_finds 18 = .ok (.aload_n 0, 1) := by decide +kernel
theorem dL_finds_19 : decode cL_finds 19 = .ok (.iconst 3, 1) := by decide +kernel
theorem dL_finds_20 : decode cL_finds 20 = .ok (.iload 5, 2) := by decide +kernel
theorem dL_finds_22 : decode cL_finds 22 = .ok (.imul, 1) := by decide +kernel
theorem dL_finds_23 : decode cL_finds 23 = .ok (.iaload, 1) := by decide +kernel
theorem dL_finds_24 : decode cL_finds 24 = .ok (.iastore, 1) := by decide +kernel
theorem dL_finds_25 : decode cL_finds 25 = .ok (.aload_n 0, 1) := by decide +kernel
theorem dL_finds_26 : decode cL_finds 26 = .ok (.iconst 3, 1) := by decide +kernel
theorem dL_finds_27 : decode cL_finds 27 = .ok (.iload 5, 2) := by decide +kernel
theorem dL_finds_29 : decode cL_finds 29 = .ok (.imul, 1) := by decide +kernel
theorem dL_finds_30 : decode cL_finds 30 = .ok (.iconst 2, 1) := by decide +kernel
theorem dL_finds_31 : decode cL_finds 31 = .ok (.iadd, 1) := by decide +kernel
theorem dL_finds_32 : decode cL_finds 32 = .ok (.iconst 0, 1) := by decide +kernel
theorem dL_finds_33 : decode cL_finds 33 = .ok (.iastore, 1) := by decide +kernel
theorem dL_finds_34 : decode cL_finds 34 = .ok (.iinc 5 1, 3) := by decide +kernel
theorem dL_finds_37 : decode cL_finds 37 = .ok (.goto (-34), 3) := by decide +kernel
theorem dL_finds_40 : decode cL_finds 40 = .ok (.iconst 0, 1) := by decide +kernel
theorem dL_finds_41 : decode cL_finds 41 = .ok (.istore 5, 2) := by decide +kernel
theorem dL_finds_43 : decode cL_finds 43 = .ok (.iload 5, 2) := by decide +kernel
theorem dL_finds_45 : decode cL_finds 45 = .ok (.iload 4, 2) := by decide +kernel
theorem dL_finds_47 : decode cL_finds 47 = .ok (.if_icmp .ge 84, 3) := by decide +kernel
theorem dL_finds_50 : decode cL_finds 50 = .ok (.aload_n 2, 1) := by decide +kernel
theorem dL_finds_51 : decode cL_finds 51 = .ok (.bipush 32, 2) := by decide +kernel
theorem dL_finds_53 : decode cL_finds 53 = .ok (.iload 5, 2) := by decide +kernel
theorem dL_finds_55 : decode cL_finds 55 = .ok (.iadd, 1) := by decide +kernel
theorem dL_finds_56 : decode cL_finds 56 = .ok (.iaload, 1) := by decide +kernel
theorem dL_finds_57 : decode cL_finds 57 = .ok (.istore 6, 2) := by decide +kernel
theorem dL_finds_59 : decode cL_finds 59 = .ok (.aload_n 1, 1) := by decide +kernel
theorem dL_finds_60 : decode cL_finds 60 = .ok (.bipush 48, 2) := by decide +kernel
theorem dL_finds_62 : decode cL_finds 62 = .ok (.iload 6, 2) := by decide +kernel
theorem dL_finds_64 : decode cL_finds 64 = .ok (.iadd, 1) := by decide +kernel
theorem dL_finds_65 : decode cL_finds 65 = .ok (.iaload, 1) := by decide +kernel
theorem dL_finds_66 : decode cL_finds 66 = .ok (.iconst 2, 1) := by decide +kernel
theorem dL_finds_67 : decode cL_finds 67 = .ok (.irem, 1) := by decide +kernel
theorem dL_finds_68 : decode cL_finds 68 = .ok (.ifCond .ne 57, 3) := by decide +kernel
theorem dL_finds_71 : decode cL_finds 71 = .ok (.aload_n 1, 1) := by decide +kernel
theorem dL_finds_72 : decode cL_finds 72 = .ok (.bipush 32, 2) := by decide +kernel
theorem dL_finds_74 : decode cL_finds 74 = .ok (.iload 6, 2) := by decide +kernel
theorem dL_finds_76 : decode cL_finds 76 = .ok (.iadd, 1) := by decide +kernel
theorem dL_finds_77 : decode cL_finds 77 = .ok (.iaload, 1) := by decide +kernel
theorem dL_finds_78 : decode cL_finds 78 = .ok (.iconst 1, 1) := by decide +kernel
theorem dL_finds_79 : decode cL_finds 79 = .ok (.if_icmp .ne 7, 3) := by decide +kernel
theorem dL_finds_82 : decode cL_finds 82 = .ok (.iconst 1, 1) := by decide +kernel
theorem dL_finds_83 : decode cL_finds 83 = .ok (.goto 4, 3) := by decide +kernel
theorem dL_finds_86 : decode cL_finds 86 = .ok (.iconst (-1), 1) := by decide +kernel
theorem dL_finds_87 : decode cL_finds 87 = .ok (.istore 7, 2) := by decide +kernel
theorem dL_finds_89 : decode cL_finds 89 = .ok (.aload_n 0, 1) := by decide +kernel
theorem dL_finds_90 : decode cL_finds 90 = .ok (.aload_n 1, 1) := by decide +kernel
theorem dL_finds_91 : decode cL_finds 91 = .ok (.bipush 16, 2) := by decide +kernel
theorem dL_finds_93 : decode cL_finds 93 = .ok (.iload 6, 2) := by decide +kernel
theorem dL_finds_95 : decode cL_finds 95 = .ok (.iadd, 1) := by decide +kernel
theorem dL_finds_96 : decode cL_finds 96 = .ok (.iaload, 1) := by decide +kernel
theorem dL_finds_97 : decode cL_finds 97 = .ok (.bipush 100, 2) := by decide +kernel
theorem dL_finds_99 : decode cL_finds 99 = .ok (.idiv, 1) := by decide +kernel
theorem dL_finds_100 : decode cL_finds 100 = .ok (.iload 7, 2) := by decide +kernel
theorem dL_finds_102 : decode cL_finds 102 = .ok (.invokestatic 110, 3) := by decide +kernel
theorem dL_finds_105 : decode cL_finds 105 = .ok (.aload_n 0, 1) := by decide +kernel
theorem dL_finds_106 : decode cL_finds 106 = .ok (.aload_n 1, 1) := by decide +kernel
theorem dL_finds_107 : decode cL_finds 107 = .ok (.bipush 16, 2) := by decide +kernel
theorem dL_finds_109 : decode cL_finds 109 = .ok (.iload 6, 2) := by decide +kernel
theorem dL_finds_111 : decode cL_finds 111 = .ok (.iadd, 1) := by decide +kernel
theorem dL_finds_112 : decode cL_finds 112 = .ok (.iaload, 1) := by decide +kernel
theorem dL_finds_113 : decode cL_finds 113 = .ok (.bipush 10, 2) := by decide +kernel
theorem dL_finds_115 : decode cL_finds 115 = .ok (.idiv, 1) := by decide +kernel
theorem dL_finds_116 : decode cL_finds 116 = .ok (.bipush 10, 2) := by decide +kernel
theorem dL_finds_118 : decode cL_finds 118 = .ok (.irem, 1) := by decide +kernel
theorem dL_finds_119 : decode cL_finds 119 = .ok (.iload 7, 2) := by decide +kernel
theorem dL_finds_121 : decode cL_finds 121 = .ok (.ineg, 1) := by decide +kernel
theorem dL_finds_122 : decode cL_finds 122 = .ok (.invokestatic 110, 3) := by decide +kernel
theorem dL_finds_125 : decode cL_finds 125 = .ok (.iinc 5 1, 3) := by decide +kernel
theorem dL_finds_128 : decode cL_finds 128 = .ok (.goto (-85), 3) := by decide +kernel
theorem dL_finds_131 : decode cL_finds 131 = .ok (.return_, 1) := by decide +kernel
theorem dL_told_0 : decode cL_told 0 = .ok (.aload_n 0, 1) := by decide +kernel
theorem dL_told_1 : decode cL_told 1 = .ok (.iconst 3, 1) := by decide +kernel
theorem dL_told_2 : decode cL_told 2 = .ok (.iload_n 2, 1) := by decide +kernel
theorem dL_told_3 : decode cL_told 3 = .ok (.imul, 1) := by decide +kernel
theorem dL_told_4 : decode cL_told 4 = .ok (.iconst 1, 1) := by decide +kernel
theorem dL_told_5 : decode cL_told 5 = .ok (.iadd, 1) := by decide +kernel
theorem dL_told_6 : decode cL_told 6 = .ok (.iaload, 1) := by decide +kernel
theorem dL_told_7 : decode cL_told 7 = .ok (.aload_n 0, 1) := by decide +kernel
theorem dL_told_8 : decode cL_told 8 = .ok (.iconst 3, 1) := by decide +kernel
theorem dL_told_9 : decode cL_told 9 = .ok (.iload_n 1, 1) := by decide +kernel
theorem dL_told_10 : decode cL_told 10 = .ok (.imul, 1) := by decide +kernel
theorem dL_told_11 : decode cL_told 11 = .ok (.iconst 1, 1) := by decide +kernel
theorem dL_told_12 : decode cL_told 12 = .ok (.iadd, 1) := by decide +kernel
theorem dL_told_13 : decode cL_told 13 = .ok (.iaload, 1) := by decide +kernel
theorem dL_told_14 : decode cL_told 14 = .ok (.isub, 1) := by decide +kernel
theorem dL_told_15 : decode cL_told 15 = .ok (.istore_n 3, 1) := by decide +kernel
theorem dL_told_16 : decode cL_told 16 = .ok (.iload_n 3, 1) := by decide +kernel
theorem dL_told_17 : decode cL_told 17 = .ok (.ifCond .ge 8, 3) := by decide +kernel
theorem dL_told_20 : decode cL_told 20 = .ok (.iload_n 3, 1) := by decide +kernel
theorem dL_told_21 : decode cL_told 21 = .ok (.ineg, 1) := by decide +kernel
theorem dL_told_22 : decode cL_told 22 = .ok (.goto 4, 3) := by decide +kernel
theorem dL_told_25 : decode cL_told 25 = .ok (.iload_n 3, 1) := by decide +kernel
theorem dL_told_26 : decode cL_told 26 = .ok (.istore 4, 2) := by decide +kernel
theorem dL_told_28 : decode cL_told 28 = .ok (.iload 4, 2) := by decide +kernel
theorem dL_told_30 : decode cL_told 30 = .ok (.iconst 4, 1) := by decide +kernel
theorem dL_told_31 : decode cL_told 31 = .ok (.if_icmp .le 7, 3) := by decide +kernel
theorem dL_told_34 : decode cL_told 34 = .ok (.iconst 4, 1) := by decide +kernel
theorem dL_told_35 : decode cL_told 35 = .ok (.goto 5, 3) := by decide +kernel
theorem dL_told_38 : decode cL_told 38 = .ok (.iload 4, 2) := by decide +kernel
theorem dL_told_40 : decode cL_told 40 = .ok (.istore 4, 2) := by decide +kernel
theorem dL_told_42 : decode cL_told 42 = .ok (.iload_n 3, 1) := by decide +kernel
theorem dL_told_43 : decode cL_told 43 = .ok (.ifCond .ge 18, 3) := by decide +kernel
theorem dL_told_46 : decode cL_told 46 = .ok (.bipush 100, 2) := by decide +kernel
theorem dL_told_48 : decode cL_told 48 = .ok (.iload_n 2, 1) := by decide +kernel
theorem dL_told_49 : decode cL_told 49 = .ok (.imul, 1) := by decide +kernel
theorem dL_told_50 : decode cL_told 50 = .ok (.bipush 10, 2) := by decide +kernel
theorem dL_told_52 : decode cL_told 52 = .ok (.iload_n 1, 1) := by decide +kernel
theorem dL_told_53 : decode cL_told 53 = .ok (.imul, 1) := by decide +kernel
theorem dL_told_54 : decode cL_told 54 = .ok (.iadd, 1) := by decide +kernel
theorem dL_told_55 : decode cL_told 55 = .ok (.iload 4, 2) := by decide +kernel
theorem dL_told_57 : decode cL_told 57 = .ok (.iadd, 1) := by decide +kernel
theorem dL_told_58 : decode cL_told 58 = .ok (.goto 15, 3) := by decide +kernel
theorem dL_told_61 : decode cL_told 61 = .ok (.bipush 100, 2) := by decide +kernel
theorem dL_told_63 : decode cL_told 63 = .ok (.iload_n 1, 1) := by decide +kernel
theorem dL_told_64 : decode cL_told 64 = .ok (.imul, 1) := by decide +kernel
theorem dL_told_65 : decode cL_told 65 = .ok (.bipush 10, 2) := by decide +kernel
theorem dL_told_67 : decode cL_told 67 = .ok (.iload_n 2, 1) := by decide +kernel
theorem dL_told_68 : decode cL_told 68 = .ok (.imul, 1) := by decide +kernel
theorem dL_told_69 : decode cL_told 69 = .ok (.iadd, 1) := by decide +kernel
theorem dL_told_70 : decode cL_told 70 = .ok (.iload 4, 2) := by decide +kernel
theorem dL_told_72 : decode cL_told 72 = .ok (.iadd, 1) := by decide +kernel
theorem dL_told_73 : decode cL_told 73 = .ok (.ireturn, 1) := by decide +kernel
theorem dL_due_0 : decode cL_due 0 = .ok (.aload_n 0, 1) := by decide +kernel
theorem dL_due_1 : decode cL_due 1 = .ok (.aload_n 1, 1) := by decide +kernel
theorem dL_due_2 : decode cL_due 2 = .ok (.aload_n 2, 1) := by decide +kernel
theorem dL_due_3 : decode cL_due 3 = .ok (.aload_n 3, 1) := by decide +kernel
theorem dL_due_4 : decode cL_due 4 = .ok (.aload_n 1, 1) := by decide +kernel
theorem dL_due_5 : decode cL_due 5 = .ok (.bipush 48, 2) := by decide +kernel
theorem dL_due_7 : decode cL_due 7 = .ok (.iload 4, 2) := by decide +kernel
theorem dL_due_9 : decode cL_due 9 = .ok (.iadd, 1) := by decide +kernel
theorem dL_due_10 : decode cL_due 10 = .ok (.iaload, 1) := by decide +kernel
theorem dL_due_11 : decode cL_due 11 = .ok (.iconst 2, 1) := by decide +kernel
theorem dL_due_12 : decode cL_due 12 = .ok (.idiv, 1) := by decide +kernel
theorem dL_due_13 : decode cL_due 13 = .ok (.invokestatic 114, 3) := by decide +kernel
theorem dL_due_16 : decode cL_due 16 = .ok (.aload_n 0, 1) := by decide +kernel
theorem dL_due_17 : decode cL_due 17 = .ok (.aload_n 1, 1) := by decide +kernel
theorem dL_due_18 : decode cL_due 18 = .ok (.iload 4, 2) := by decide +kernel
theorem dL_due_20 : decode cL_due 20 = .ok (.iaload, 1) := by decide +kernel
theorem dL_due_21 : decode cL_due 21 = .ok (.bipush 10, 2) := by decide +kernel
theorem dL_due_23 : decode cL_due 23 = .ok (.idiv, 1) := by decide +kernel
theorem dL_due_24 : decode cL_due 24 = .ok (.aload_n 1, 1) := by decide +kernel
theorem dL_due_25 : decode cL_due 25 = .ok (.iload 4, 2) := by decide +kernel
theorem dL_due_27 : decode cL_due 27 = .ok (.iaload, 1) := by decide +kernel
theorem dL_due_28 : decode cL_due 28 = .ok (.bipush 10, 2) := by decide +kernel
theorem dL_due_30 : decode cL_due 30 = .ok (.irem, 1) := by decide +kernel
theorem dL_due_31 : decode cL_due 31 = .ok (.invokestatic 118, 3) := by decide +kernel
theorem dL_due_34 : decode cL_due 34 = .ok (.istore 5, 2) := by decide +kernel
theorem dL_due_36 : decode cL_due 36 = .ok (.aload_n 0, 1) := by decide +kernel
theorem dL_due_37 : decode cL_due 37 = .ok (.aload_n 1, 1) := by decide +kernel
theorem dL_due_38 : decode cL_due 38 = .ok (.aload_n 2, 1) := by decide +kernel
theorem dL_due_39 : decode cL_due 39 = .ok (.aload_n 3, 1) := by decide +kernel
theorem dL_due_40 : decode cL_due 40 = .ok (.aload_n 3, 1) := by decide +kernel
theorem dL_due_41 : decode cL_due 41 = .ok (.iconst 3, 1) := by decide +kernel
theorem dL_due_42 : decode cL_due 42 = .ok (.iaload, 1) := by decide +kernel
theorem dL_due_43 : decode cL_due 43 = .ok (.invokestatic 114, 3) := by decide +kernel
theorem dL_due_46 : decode cL_due 46 = .ok (.iload 5, 2) := by decide +kernel
theorem dL_due_48 : decode cL_due 48 = .ok (.ireturn, 1) := by decide +kernel
theorem dL_off_0 : decode cL_off 0 = .ok (.iconst 0, 1) := by decide +kernel
theorem dL_off_1 : decode cL_off 1 = .ok (.istore 4, 2) := by decide +kernel
theorem dL_off_3 : decode cL_off 3 = .ok (.iconst 0, 1) := by decide +kernel
theorem dL_off_4 : decode cL_off 4 = .ok (.istore 5, 2) := by decide +kernel
theorem dL_off_6 : decode cL_off 6 = .ok (.iload 5, 2) := by decide +kernel
theorem dL_off_8 : decode cL_off 8 = .ok (.aload_n 3, 1) := by decide +kernel
theorem dL_off_9 : decode cL_off 9 = .ok (.iconst 1, 1) := by decide +kernel
theorem dL_off_10 : decode cL_off 10 = .ok (.iaload, 1) := by decide +kernel
theorem dL_off_11 : decode cL_off 11 = .ok (.if_icmp .ge 53, 3) := by decide +kernel
theorem dL_off_14 : decode cL_off 14 = .ok (.iload 4, 2) := by decide +kernel
theorem dL_off_16 : decode cL_off 16 = .ok (.aload_n 1, 1) := by decide +kernel
theorem dL_off_17 : decode cL_off 17 = .ok (.bipush 48, 2) := by decide +kernel
theorem dL_off_19 : decode cL_off 19 = .ok (.iload 5, 2) := by decide +kernel
theorem dL_off_21 : decode cL_off 21 = .ok (.iadd, 1) := by decide +kernel
theorem dL_off_22 : decode cL_off 22 = .ok (.iaload, 1) := by decide +kernel
theorem dL_off_23 : decode cL_off 23 = .ok (.iconst 2, 1) := by decide +kernel
theorem dL_off_24 : decode cL_off 24 = .ok (.irem, 1) := by decide +kernel
theorem dL_off_25 : decode cL_off 25 = .ok (.ifCond .ne 29, 3) := by decide +kernel
theorem dL_off_28 : decode cL_off 28 = .ok (.aload_n 0, 1) := by decide +kernel
theorem dL_off_29 : decode cL_off 29 = .ok (.aload_n 1, 1) := by decide +kernel
theorem dL_off_30 : decode cL_off 30 = .ok (.aload_n 2, 1) := by decide +kernel
theorem dL_off_31 : decode cL_off 31 = .ok (.aload_n 3, 1) := by decide +kernel
theorem dL_off_32 : decode cL_off 32 = .ok (.iload 5, 2) := by decide +kernel
theorem dL_off_34 : decode cL_off 34 = .ok (.invokestatic 122, 3) := by decide +kernel
theorem dL_off_37 : decode cL_off 37 = .ok (.aload_n 1, 1) := by decide +kernel
theorem dL_off_38 : decode cL_off 38 = .ok (.bipush 16, 2) := by decide +kernel
theorem dL_off_40 : decode cL_off 40 = .ok (.iload 5, 2) := by decide +kernel
theorem dL_off_42 : decode cL_off 42 = .ok (.iadd, 1) := by decide +kernel
theorem dL_off_43 : decode cL_off 43 = .ok (.iaload, 1) := by decide +kernel
theorem dL_off_44 : decode cL_off 44 = .ok (.if_icmp .eq 10, 3) := by decide +kernel
theorem dL_off_47 : decode cL_off 47 = .ok (.iconst 1, 1) := by decide +kernel
theorem dL_off_48 : decode cL_off 48 = .ok (.iload 5, 2) := by decide +kernel
theorem dL_off_50 : decode cL_off 50 = .ok (.ishl, 1) := by decide +kernel
theorem dL_off_51 : decode cL_off 51 = .ok (.goto 4, 3) := by decide +kernel
theorem dL_off_54 : decode cL_off 54 = .ok (.iconst 0, 1) := by decide +kernel
theorem dL_off_55 : decode cL_off 55 = .ok (.ior, 1) := by decide +kernel
theorem dL_off_56 : decode cL_off 56 = .ok (.istore 4, 2) := by decide +kernel
theorem dL_off_58 : decode cL_off 58 = .ok (.iinc 5 1, 3) := by decide +kernel
theorem dL_off_61 : decode cL_off 61 = .ok (.goto (-55), 3) := by decide +kernel
theorem dL_off_64 : decode cL_off 64 = .ok (.iload 4, 2) := by decide +kernel
theorem dL_off_66 : decode cL_off 66 = .ok (.ireturn, 1) := by decide +kernel
theorem dL_ends_0 : decode cL_ends 0 = .ok (.aload_n 1, 1) := by decide +kernel
theorem dL_ends_1 : decode cL_ends 1 = .ok (.bipush 32, 2) := by decide +kernel
theorem dL_ends_3 : decode cL_ends 3 = .ok (.iload 4, 2) := by decide +kernel
theorem dL_ends_5 : decode cL_ends 5 = .ok (.iadd, 1) := by decide +kernel
theorem dL_ends_6 : decode cL_ends 6 = .ok (.iload 5, 2) := by decide +kernel
theorem dL_ends_8 : decode cL_ends 8 = .ok (.iconst 1, 1) := by decide +kernel
theorem dL_ends_9 : decode cL_ends 9 = .ok (.iadd, 1) := by decide +kernel
theorem dL_ends_10 : decode cL_ends 10 = .ok (.iastore, 1) := by decide +kernel
theorem dL_ends_11 : decode cL_ends 11 = .ok (.aload_n 2, 1) := by decide +kernel
theorem dL_ends_12 : decode cL_ends 12 = .ok (.bipush 32, 2) := by decide +kernel
theorem dL_ends_14 : decode cL_ends 14 = .ok (.aload_n 3, 1) := by decide +kernel
theorem dL_ends_15 : decode cL_ends 15 = .ok (.iconst 3, 1) := by decide +kernel
theorem dL_ends_16 : decode cL_ends 16 = .ok (.iaload, 1) := by decide +kernel
theorem dL_ends_17 : decode cL_ends 17 = .ok (.iadd, 1) := by decide +kernel
theorem dL_ends_18 : decode cL_ends 18 = .ok (.iload 4, 2) := by decide +kernel
theorem dL_ends_20 : decode cL_ends 20 = .ok (.iastore, 1) := by decide +kernel
theorem dL_ends_21 : decode cL_ends 21 = .ok (.aload_n 3, 1) := by decide +kernel
theorem dL_ends_22 : decode cL_ends 22 = .ok (.iconst 3, 1) := by decide +kernel
theorem dL_ends_23 : decode cL_ends 23 = .ok (.dup2, 1) := by decide +kernel
theorem dL_ends_24 : decode cL_ends 24 = .ok (.iaload, 1) := by decide +kernel
theorem dL_ends_25 : decode cL_ends 25 = .ok (.iconst 1, 1) := by decide +kernel
theorem dL_ends_26 : decode cL_ends 26 = .ok (.iadd, 1) := by decide +kernel
theorem dL_ends_27 : decode cL_ends 27 = .ok (.iastore, 1) := by decide +kernel
theorem dL_ends_28 : decode cL_ends 28 = .ok (.aload_n 0, 1) := by decide +kernel
theorem dL_ends_29 : decode cL_ends 29 = .ok (.aload_n 1, 1) := by decide +kernel
theorem dL_ends_30 : decode cL_ends 30 = .ok (.aload_n 2, 1) := by decide +kernel
theorem dL_ends_31 : decode cL_ends 31 = .ok (.aload_n 3, 1) := by decide +kernel
theorem dL_ends_32 : decode cL_ends 32 = .ok (.aload_n 3, 1) := by decide +kernel
theorem dL_ends_33 : decode cL_ends 33 = .ok (.iconst 3, 1) := by decide +kernel
theorem dL_ends_34 : decode cL_ends 34 = .ok (.iaload, 1) := by decide +kernel
theorem dL_ends_35 : decode cL_ends 35 = .ok (.invokestatic 114, 3) := by decide +kernel
theorem dL_ends_38 : decode cL_ends 38 = .ok (.return_, 1) := by decide +kernel
theorem dL_areGames_0 : decode cL_areGames 0 = .ok (.aload_n 0, 1) := by decide +kernel
theorem dL_areGames_1 : decode cL_areGames 1 = .ok (.iconst 0, 1) := by decide +kernel
theorem dL_areGames_2 : decode cL_areGames 2 = .ok (.aload 8, 2) := by decide +kernel
theorem dL_areGames_4 : decode cL_areGames 4 = .ok (.iconst 0, 1) := by decide +kernel
theorem dL_areGames_5 : decode cL_areGames 5 = .ok (.iaload, 1) := by decide +kernel
theorem dL_areGames_6 : decode cL_areGames 6 = .ok (.iconst 0, 1) := by decide +kernel
theorem dL_areGames_7 : decode cL_areGames 7 = .ok (.invokestatic 125, 3) := by decide +kernel
theorem dL_areGames_10 : decode cL_areGames 10 = .ok (.sipush (-3000), 3) := by decide +kernel
theorem dL_areGames_13 : decode cL_areGames 13 = .ok (.if_icmp .ne 66, 3) := by decide +kernel
theorem dL_areGames_16 : decode cL_areGames 16 = .ok (.aload_n 0, 1) := by decide +kernel
theorem dL_areGames_17 : decode cL_areGames 17 = .ok (.iconst 1, 1) := by decide +kernel
theorem dL_areGames_18 : decode cL_areGames 18 = .ok (.aload 8, 2) := by decide +kernel
theorem dL_areGames_20 : decode cL_areGames 20 = .ok (.iconst 1, 1) := by decide +kernel
theorem dL_areGames_21 : decode cL_areGames 21 = .ok (.iaload, 1) := by decide +kernel
theorem dL_areGames_22 : decode cL_areGames 22 = .ok (.iconst 0, 1) := by decide +kernel
theorem dL_areGames_23 : decode cL_areGames 23 = .ok (.invokestatic 125, 3) := by decide +kernel
theorem dL_areGames_26 : decode cL_areGames 26 = .ok (.sipush (-3000), 3) := by decide +kernel
theorem dL_areGames_29 : decode cL_areGames 29 = .ok (.if_icmp .ne 50, 3) := by decide +kernel
theorem dL_areGames_32 : decode cL_areGames 32 = .ok (.aload_n 0, 1) := by decide +kernel
theorem dL_areGames_33 : decode cL_areGames 33 = .ok (.iconst 2, 1) := by decide +kernel
theorem dL_areGames_34 : decode cL_areGames 34 = .ok (.iconst (-1), 1) := by decide +kernel
theorem dL_areGames_35 : decode cL_areGames 35 = .ok (.iconst 0, 1) := by decide +kernel
theorem dL_areGames_36 : decode cL_areGames 36 = .ok (.invokestatic 125, 3) := by decide +kernel
theorem dL_areGames_39 : decode cL_areGames 39 = .ok (.sipush (-3000), 3) := by decide +kernel
theorem dL_areGames_42 : decode cL_areGames 42 = .ok (.if_icmp .ne 37, 3) := by decide +kernel
theorem dL_areGames_45 : decode cL_areGames 45 = .ok (.aload_n 0, 1) := by decide +kernel
theorem dL_areGames_46 : decode cL_areGames 46 = .ok (.iconst 5, 1) := by decide +kernel
theorem dL_areGames_47 : decode cL_areGames 47 = .ok (.aload 8, 2) := by decide +kernel
theorem dL_areGames_49 : decode cL_areGames 49 = .ok (.iconst 1, 1) := by decide +kernel
theorem dL_areGames_50 : decode cL_areGames 50 = .ok (.iaload, 1) := by decide +kernel
theorem dL_areGames_51 : decode cL_areGames 51 = .ok (.iconst 0, 1) := by decide +kernel
theorem dL_areGames_52 : decode cL_areGames 52 = .ok (.invokestatic 125, 3) := by decide +kernel
theorem dL_areGames_55 : decode cL_areGames 55 = .ok (.sipush (-3000), 3) := by decide +kernel
theorem dL_areGames_58 : decode cL_areGames 58 = .ok (.if_icmp .ne 21, 3) := by decide +kernel
theorem dL_areGames_61 : decode cL_areGames 61 = .ok (.aload_n 0, 1) := by decide +kernel
theorem dL_areGames_62 : decode cL_areGames 62 = .ok (.bipush 8, 2) := by decide +kernel
theorem dL_areGames_64 : decode cL_areGames 64 = .ok (.iconst (-1), 1) := by decide +kernel
theorem dL_areGames_65 : decode cL_areGames 65 = .ok (.iconst 0, 1) := by decide +kernel
theorem dL_areGames_66 : decode cL_areGames 66 = .ok (.invokestatic 125, 3) := by decide +kernel
theorem dL_areGames_69 : decode cL_areGames 69 = .ok (.sipush (-3000), 3) := by decide +kernel
theorem dL_areGames_72 : decode cL_areGames 72 = .ok (.if_icmp .ne 7, 3) := by decide +kernel
theorem dL_areGames_75 : decode cL_areGames 75 = .ok (.iconst 1, 1) := by decide +kernel
theorem dL_areGames_76 : decode cL_areGames 76 = .ok (.goto 4, 3) := by decide +kernel
theorem dL_areGames_79 : decode cL_areGames 79 = .ok (.iconst 0, 1) := by decide +kernel
theorem dL_areGames_80 : decode cL_areGames 80 = .ok (.istore 9, 2) := by decide +kernel
theorem dL_areGames_82 : decode cL_areGames 82 = .ok (.iconst 0, 1) := by decide +kernel
theorem dL_areGames_83 : decode cL_areGames 83 = .ok (.istore 10, 2) := by decide +kernel
theorem dL_areGames_85 : decode cL_areGames 85 = .ok (.iload 10, 2) := by decide +kernel
theorem dL_areGames_87 : decode cL_areGames 87 = .ok (.aload 8, 2) := by decide +kernel
theorem dL_areGames_89 : decode cL_areGames 89 = .ok (.iconst 0, 1) := by decide +kernel
theorem dL_areGames_90 : decode cL_areGames 90 = .ok (.iaload, 1) := by decide +kernel
theorem dL_areGames_91 : decode cL_areGames 91 = .ok (.if_icmp .ge 68, 3) := by decide +kernel
theorem dL_areGames_94 : decode cL_areGames 94 = .ok (.iload 9, 2) := by decide +kernel
theorem dL_areGames_96 : decode cL_areGames 96 = .ok (.ifCond .eq 63, 3) := by decide +kernel
theorem dL_areGames_99 : decode cL_areGames 99 = .ok (.aload 4, 2) := by decide +kernel
theorem dL_areGames_101 : decode cL_areGames 101 = .ok (.iconst 3, 1) := by decide +kernel
theorem dL_areGames_102 : decode cL_areGames 102 = .ok (.iload 10, 2) := by decide +kernel
theorem dL_areGames_104 : decode cL_areGames 104 = .ok (.imul, 1) := by decide +kernel
theorem dL_areGames_105 : decode cL_areGames 105 = .ok (.iconst 2, 1) := by decide +kernel
theorem dL_areGames_106 : decode cL_areGames 106 = .ok (.iadd, 1) := by decide +kernel
theorem dL_areGames_107 : decode cL_areGames 107 = .ok (.iaload, 1) := by decide +kernel
theorem dL_areGames_108 : decode cL_areGames 108 = .ok (.istore 11, 2) := by decide +kernel
theorem dL_areGames_110 : decode cL_areGames 110 = .ok (.aload_n 0, 1) := by decide +kernel
theorem dL_areGames_111 : decode cL_areGames 111 = .ok (.iload 10, 2) := by decide +kernel
theorem dL_areGames_113 : decode cL_areGames 113 = .ok (.invokevirtual 57, 3) := by decide +kernel
theorem dL_areGames_116 : decode cL_areGames 116 = .ok (.bipush 10, 2) := by decide +kernel
theorem dL_areGames_118 : decode cL_areGames 118 = .ok (.aload 4, 2) := by decide +kernel
theorem dL_areGames_120 : decode cL_areGames 120 = .ok (.iconst 3, 1) := by decide +kernel
theorem dL_areGames_121 : decode cL_areGames 121 = .ok (.iload 10, 2) := by decide +kernel
theorem dL_areGames_123 : decode cL_areGames 123 = .ok (.imul, 1) := by decide +kernel
theorem dL_areGames_124 : decode cL_areGames 124 = .ok (.iconst 1, 1) := by decide +kernel
theorem dL_areGames_125 : decode cL_areGames 125 = .ok (.iadd, 1) := by decide +kernel
theorem dL_areGames_126 : decode cL_areGames 126 = .ok (.iaload, 1) := by decide +kernel
theorem dL_areGames_127 : decode cL_areGames 127 = .ok (.imul, 1) := by decide +kernel
theorem dL_areGames_128 : decode cL_areGames 128 = .ok (.iload 11, 2) := by decide +kernel
theorem dL_areGames_130 : decode cL_areGames 130 = .ok (.ifCond .ge 10, 3) := by decide +kernel
theorem dL_areGames_133 : decode cL_areGames 133 = .ok (.iconst 5, 1) := by decide +kernel
theorem dL_areGames_134 : decode cL_areGames 134 = .ok (.iload 11, 2) := by decide +kernel
theorem dL_areGames_136 : decode cL_areGames 136 = .ok (.isub, 1) := by decide +kernel
theorem dL_areGames_137 : decode cL_areGames 137 = .ok (.goto 5, 3) := by decide +kernel
theorem dL_areGames_140 : decode cL_areGames 140 = .ok (.iload 11, 2) := by decide +kernel
theorem dL_areGames_142 : decode cL_areGames 142 = .ok (.iadd, 1) := by decide +kernel
theorem dL_areGames_143 : decode cL_areGames 143 = .ok (.if_icmp .ne 7, 3) := by decide +kernel
theorem dL_areGames_146 : decode cL_areGames 146 = .ok (.iconst 1, 1) := by decide +kernel
theorem dL_areGames_147 : decode cL_areGames 147 = .ok (.goto 4, 3) := by decide +kernel
theorem dL_areGames_150 : decode cL_areGames 150 = .ok (.iconst 0, 1) := by decide +kernel
theorem dL_areGames_151 : decode cL_areGames 151 = .ok (.istore 9, 2) := by decide +kernel
theorem dL_areGames_153 : decode cL_areGames 153 = .ok (.iinc 10 1, 3) := by decide +kernel
theorem dL_areGames_156 : decode cL_areGames 156 = .ok (.goto (-71), 3) := by decide +kernel
theorem dL_areGames_159 : decode cL_areGames 159 = .ok (.iconst 0, 1) := by decide +kernel
theorem dL_areGames_160 : decode cL_areGames 160 = .ok (.istore 10, 2) := by decide +kernel
theorem dL_areGames_162 : decode cL_areGames 162 = .ok (.iload 10, 2) := by decide +kernel
theorem dL_areGames_164 : decode cL_areGames 164 = .ok (.aload 8, 2) := by decide +kernel
theorem dL_areGames_166 : decode cL_areGames 166 = .ok (.iconst 1, 1) := by decide +kernel
theorem dL_areGames_167 : decode cL_areGames 167 = .ok (.iaload, 1) := by decide +kernel
theorem dL_areGames_168 : decode cL_areGames 168 = .ok (.if_icmp .ge 224, 3) := by decide +kernel
theorem dL_areGames_171 : decode cL_areGames 171 = .ok (.iload 9, 2) := by decide +kernel
theorem dL_areGames_173 : decode cL_areGames 173 = .ok (.ifCond .eq 219, 3) := by decide +kernel
theorem dL_areGames_176 : decode cL_areGames 176 = .ok (.aload_n 3, 1) := by decide +kernel
theorem dL_areGames_177 : decode cL_areGames 177 = .ok (.aload 8, 2) := by decide +kernel
theorem dL_areGames_179 : decode cL_areGames 179 = .ok (.iload 10, 2) := by decide +kernel
theorem dL_areGames_181 : decode cL_areGames 181 = .ok (.invokestatic 129, 3) := by decide +kernel
theorem dL_areGames_184 : decode cL_areGames 184 = .ok (.istore 11, 2) := by decide +kernel
theorem dL_areGames_186 : decode cL_areGames 186 = .ok (.aload_n 0, 1) := by decide +kernel
theorem dL_areGames_187 : decode cL_areGames 187 = .ok (.iload 10, 2) := by decide +kernel
theorem dL_areGames_189 : decode cL_areGames 189 = .ok (.invokevirtual 60, 3) := by decide +kernel
theorem dL_areGames_192 : decode cL_areGames 192 = .ok (.aload 5, 2) := by decide +kernel
theorem dL_areGames_194 : decode cL_areGames 194 = .ok (.bipush 32, 2) := by decide +kernel
theorem dL_areGames_196 : decode cL_areGames 196 = .ok (.iload 10, 2) := by decide +kernel
theorem dL_areGames_198 : decode cL_areGames 198 = .ok (.iadd, 1) := by decide +kernel
theorem dL_areGames_199 : decode cL_areGames 199 = .ok (.iaload, 1) := by decide +kernel
theorem dL_areGames_200 : decode cL_areGames 200 = .ok (.bipush 10, 2) := by decide +kernel
theorem dL_areGames_202 : decode cL_areGames 202 = .ok (.aload 5, 2) := by decide +kernel
theorem dL_areGames_204 : decode cL_areGames 204 = .ok (.bipush 48, 2) := by decide +kernel
theorem dL_areGames_206 : decode cL_areGames 206 = .ok (.iload 10, 2) := by decide +kernel
theorem dL_areGames_208 : decode cL_areGames 208 = .ok (.iadd, 1) := by decide +kernel
theorem dL_areGames_209 : decode cL_areGames 209 = .ok (.iaload, 1) := by decide +kernel
theorem dL_areGames_210 : decode cL_areGames 210 = .ok (.iconst 2, 1) := by decide +kernel
theorem dL_areGames_211 : decode cL_areGames 211 = .ok (.irem, 1) := by decide +kernel
theorem dL_areGames_212 : decode cL_areGames 212 = .ok (.imul, 1) := by decide +kernel
theorem dL_areGames_213 : decode cL_areGames 213 = .ok (.iadd, 1) := by decide +kernel
theorem dL_areGames_214 : decode cL_areGames 214 = .ok (.if_icmp .ne 169, 3) := by decide +kernel
theorem dL_areGames_217 : decode cL_areGames 217 = .ok (.aload_n 0, 1) := by decide +kernel
theorem dL_areGames_218 : decode cL_areGames 218 = .ok (.iload 10, 2) := by decide +kernel
theorem dL_areGames_220 : decode cL_areGames 220 = .ok (.invokevirtual 63, 3) := by decide +kernel
theorem dL_areGames_223 : decode cL_areGames 223 = .ok (.aload 5, 2) := by decide +kernel
theorem dL_areGames_225 : decode cL_areGames 225 = .ok (.bipush 16, 2) := by decide +kernel
theorem dL_areGames_227 : decode cL_areGames 227 = .ok (.iload 10, 2) := by decide +kernel
theorem dL_areGames_229 : decode cL_areGames 229 = .ok (.iadd, 1) := by decide +kernel
theorem dL_areGames_230 : decode cL_areGames 230 = .ok (.iaload, 1) := by decide +kernel
theorem dL_areGames_231 : decode cL_areGames 231 = .ok (.if_icmp .ne 152, 3) := by decide +kernel
theorem dL_areGames_234 : decode cL_areGames 234 = .ok (.aload_n 0, 1) := by decide +kernel
theorem dL_areGames_235 : decode cL_areGames 235 = .ok (.iload 10, 2) := by decide +kernel
theorem dL_areGames_237 : decode cL_areGames 237 = .ok (.invokevirtual 82, 3) := by decide +kernel
theorem dL_areGames_240 : decode cL_areGames 240 = .ok (.aload 4, 2) := by decide +kernel
theorem dL_areGames_242 : decode cL_areGames 242 = .ok (.aload 5, 2) := by decide +kernel
theorem dL_areGames_244 : decode cL_areGames 244 = .ok (.aload 7, 2) := by decide +kernel
theorem dL_areGames_246 : decode cL_areGames 246 = .ok (.aload 8, 2) := by decide +kernel
theorem dL_areGames_248 : decode cL_areGames 248 = .ok (.iload 10, 2) := by decide +kernel
theorem dL_areGames_250 : decode cL_areGames 250 = .ok (.invokestatic 122, 3) := by decide +kernel
theorem dL_areGames_253 : decode cL_areGames 253 = .ok (.if_icmp .ne 130, 3) := by decide +kernel
theorem dL_areGames_256 : decode cL_areGames 256 = .ok (.aload_n 0, 1) := by decide +kernel
theorem dL_areGames_257 : decode cL_areGames 257 = .ok (.iload 10, 2) := by decide +kernel
theorem dL_areGames_259 : decode cL_areGames 259 = .ok (.iconst 0, 1) := by decide +kernel
theorem dL_areGames_260 : decode cL_areGames 260 = .ok (.invokevirtual 70, 3) := by decide +kernel
theorem dL_areGames_263 : decode cL_areGames 263 = .ok (.bipush 10, 2) := by decide +kernel
theorem dL_areGames_265 : decode cL_areGames 265 = .ok (.aload 6, 2) := by decide +kernel
theorem dL_areGames_267 : decode cL_areGames 267 = .ok (.iload 10, 2) := by decide +kernel
theorem dL_areGames_269 : decode cL_areGames 269 = .ok (.iaload, 1) := by decide +kernel
theorem dL_areGames_270 : decode cL_areGames 270 = .ok (.imul, 1) := by decide +kernel
theorem dL_areGames_271 : decode cL_areGames 271 = .ok (.aload 6, 2) := by decide +kernel
theorem dL_areGames_273 : decode cL_areGames 273 = .ok (.bipush 32, 2) := by decide +kernel
theorem dL_areGames_275 : decode cL_areGames 275 = .ok (.iload 10, 2) := by decide +kernel
theorem dL_areGames_277 : decode cL_areGames 277 = .ok (.iadd, 1) := by decide +kernel
theorem dL_areGames_278 : decode cL_areGames 278 = .ok (.iaload, 1) := by decide +kernel
theorem dL_areGames_279 : decode cL_areGames 279 = .ok (.bipush 10, 2) := by decide +kernel
theorem dL_areGames_281 : decode cL_areGames 281 = .ok (.idiv, 1) := by decide +kernel
theorem dL_areGames_282 : decode cL_areGames 282 = .ok (.iadd, 1) := by decide +kernel
theorem dL_areGames_283 : decode cL_areGames 283 = .ok (.if_icmp .ne 100, 3) := by decide +kernel
theorem dL_areGames_286 : decode cL_areGames 286 = .ok (.aload_n 0, 1) := by decide +kernel
theorem dL_areGames_287 : decode cL_areGames 287 = .ok (.iload 10, 2) := by decide +kernel
theorem dL_areGames_289 : decode cL_areGames 289 = .ok (.iconst 1, 1) := by decide +kernel
theorem dL_areGames_290 : decode cL_areGames 290 = .ok (.invokevirtual 70, 3) := by decide +kernel
theorem dL_areGames_293 : decode cL_areGames 293 = .ok (.bipush 10, 2) := by decide +kernel
theorem dL_areGames_295 : decode cL_areGames 295 = .ok (.aload 6, 2) := by decide +kernel
theorem dL_areGames_297 : decode cL_areGames 297 = .ok (.bipush 16, 2) := by decide +kernel
theorem dL_areGames_299 : decode cL_areGames 299 = .ok (.iload 10, 2) := by decide +kernel
theorem dL_areGames_301 : decode cL_areGames 301 = .ok (.iadd, 1) := by decide +kernel
theorem dL_areGames_302 : decode cL_areGames 302 = .ok (.iaload, 1) := by decide +kernel
theorem dL_areGames_303 : decode cL_areGames 303 = .ok (.imul, 1) := by decide +kernel
theorem dL_areGames_304 : decode cL_areGames 304 = .ok (.aload 6, 2) := by decide +kernel
theorem dL_areGames_306 : decode cL_areGames 306 = .ok (.bipush 32, 2) := by decide +kernel
theorem dL_areGames_308 : decode cL_areGames 308 = .ok (.iload 10, 2) := by decide +kernel
theorem dL_areGames_310 : decode cL_areGames 310 = .ok (.iadd, 1) := by decide +kernel
theorem dL_areGames_311 : decode cL_areGames 311 = .ok (.iaload, 1) := by decide +kernel
theorem dL_areGames_312 : decode cL_areGames 312 = .ok (.bipush 10, 2) := by decide +kernel
theorem dL_areGames_314 : decode cL_areGames 314 = .ok (.irem, 1) := by decide +kernel
theorem dL_areGames_315 : decode cL_areGames 315 = .ok (.iadd, 1) := by decide +kernel
theorem dL_areGames_316 : decode cL_areGames 316 = .ok (.if_icmp .ne 67, 3) := by decide +kernel
theorem dL_areGames_319 : decode cL_areGames 319 = .ok (.aload_n 0, 1) := by decide +kernel
theorem dL_areGames_320 : decode cL_areGames 320 = .ok (.iload 10, 2) := by decide +kernel
theorem dL_areGames_322 : decode cL_areGames 322 = .ok (.invokevirtual 73, 3) := by decide +kernel
theorem dL_areGames_325 : decode cL_areGames 325 = .ok (.aload_n 1, 1) := by decide +kernel
theorem dL_areGames_326 : decode cL_areGames 326 = .ok (.iload 11, 2) := by decide +kernel
theorem dL_areGames_328 : decode cL_areGames 328 = .ok (.laload, 1) := by decide +kernel
theorem dL_areGames_329 : decode cL_areGames 329 = .ok (.aload_n 2, 1) := by decide +kernel
theorem dL_areGames_330 : decode cL_areGames 330 = .ok (.iload 11, 2) := by decide +kernel
theorem dL_areGames_332 : decode cL_areGames 332 = .ok (.laload, 1) := by decide +kernel
theorem dL_areGames_333 : decode cL_areGames 333 = .ok (.aload 5, 2) := by decide +kernel
theorem dL_areGames_335 : decode cL_areGames 335 = .ok (.bipush 16, 2) := by decide +kernel
theorem dL_areGames_337 : decode cL_areGames 337 = .ok (.iload 10, 2) := by decide +kernel
theorem dL_areGames_339 : decode cL_areGames 339 = .ok (.iadd, 1) := by decide +kernel
theorem dL_areGames_340 : decode cL_areGames 340 = .ok (.iaload, 1) := by decide +kernel
theorem dL_areGames_341 : decode cL_areGames 341 = .ok (.bipush 10, 2) := by decide +kernel
theorem dL_areGames_343 : decode cL_areGames 343 = .ok (.irem, 1) := by decide +kernel
theorem dL_areGames_344 : decode cL_areGames 344 = .ok (.invokestatic 133, 3) := by decide +kernel
theorem dL_areGames_347 : decode cL_areGames 347 = .ok (.if_icmp .ne 36, 3) := by decide +kernel
theorem dL_areGames_350 : decode cL_areGames 350 = .ok (.aload_n 0, 1) := by decide +kernel
theorem dL_areGames_351 : decode cL_areGames 351 = .ok (.iconst 4, 1) := by decide +kernel
theorem dL_areGames_352 : decode cL_areGames 352 = .ok (.iload 10, 2) := by decide +kernel
theorem dL_areGames_354 : decode cL_areGames 354 = .ok (.iconst 2, 1) := by decide +kernel
theorem dL_areGames_355 : decode cL_areGames 355 = .ok (.invokestatic 125, 3) := by decide +kernel
theorem dL_areGames_358 : decode cL_areGames 358 = .ok (.sipush (-3000), 3) := by decide +kernel
theorem dL_areGames_361 : decode cL_areGames 361 = .ok (.if_icmp .ne 22, 3) := by decide +kernel
theorem dL_areGames_364 : decode cL_areGames 364 = .ok (.aload_n 0, 1) := by decide +kernel
theorem dL_areGames_365 : decode cL_areGames 365 = .ok (.iconst 3, 1) := by decide +kernel
theorem dL_areGames_366 : decode cL_areGames 366 = .ok (.iload 10, 2) := by decide +kernel
theorem dL_areGames_368 : decode cL_areGames 368 = .ok (.bipush 49, 2) := by decide +kernel
theorem dL_areGames_370 : decode cL_areGames 370 = .ok (.invokestatic 125, 3) := by decide +kernel
theorem dL_areGames_373 : decode cL_areGames 373 = .ok (.sipush (-3000), 3) := by decide +kernel
theorem dL_areGames_376 : decode cL_areGames 376 = .ok (.if_icmp .ne 7, 3) := by decide +kernel
theorem dL_areGames_379 : decode cL_areGames 379 = .ok (.iconst 1, 1) := by decide +kernel
theorem dL_areGames_380 : decode cL_areGames 380 = .ok (.goto 4, 3) := by decide +kernel
theorem dL_areGames_383 : decode cL_areGames 383 = .ok (.iconst 0, 1) := by decide +kernel
theorem dL_areGames_384 : decode cL_areGames 384 = .ok (.istore 9, 2) := by decide +kernel
theorem dL_areGames_386 : decode cL_areGames 386 = .ok (.iinc 10 1, 3) := by decide +kernel
theorem dL_areGames_389 : decode cL_areGames 389 = .ok (.goto (-227), 3) := by decide +kernel
theorem dL_areGames_392 : decode cL_areGames 392 = .ok (.iload 9, 2) := by decide +kernel
theorem dL_areGames_394 : decode cL_areGames 394 = .ok (.ireturn, 1) := by decide +kernel
theorem dL_isBoard_0 : decode cL_isBoard 0 = .ok (.aload_n 3, 1) := by decide +kernel
theorem dL_isBoard_1 : decode cL_isBoard 1 = .ok (.aload 4, 2) := by decide +kernel
theorem dL_isBoard_3 : decode cL_isBoard 3 = .ok (.iload 5, 2) := by decide +kernel
theorem dL_isBoard_5 : decode cL_isBoard 5 = .ok (.invokestatic 129, 3) := by decide +kernel
theorem dL_isBoard_8 : decode cL_isBoard 8 = .ok (.istore 6, 2) := by decide +kernel
theorem dL_isBoard_10 : decode cL_isBoard 10 = .ok (.aload_n 0, 1) := by decide +kernel
theorem dL_isBoard_11 : decode cL_isBoard 11 = .ok (.bipush 6, 2) := by decide +kernel
theorem dL_isBoard_13 : decode cL_isBoard 13 = .ok (.iload 5, 2) := by decide +kernel
theorem dL_isBoard_15 : decode cL_isBoard 15 = .ok (.iconst (-1), 1) := by decide +kernel
theorem dL_isBoard_16 : decode cL_isBoard 16 = .ok (.invokestatic 125, 3) := by decide +kernel
theorem dL_isBoard_19 : decode cL_isBoard 19 = .ok (.sipush (-3000), 3) := by decide +kernel
theorem dL_isBoard_22 : decode cL_isBoard 22 = .ok (.if_icmp .ne 23, 3) := by decide +kernel
theorem dL_isBoard_25 : decode cL_isBoard 25 = .ok (.aload_n 0, 1) := by decide +kernel
theorem dL_isBoard_26 : decode cL_isBoard 26 = .ok (.bipush 7, 2) := by decide +kernel
theorem dL_isBoard_28 : decode cL_isBoard 28 = .ok (.iload 5, 2) := by decide +kernel
theorem dL_isBoard_30 : decode cL_isBoard 30 = .ok (.bipush 49, 2) := by decide +kernel
theorem dL_isBoard_32 : decode cL_isBoard 32 = .ok (.invokestatic 125, 3) := by decide +kernel
theorem dL_isBoard_35 : decode cL_isBoard 35 = .ok (.sipush (-3000), 3) := by decide +kernel
theorem dL_isBoard_38 : decode cL_isBoard 38 = .ok (.if_icmp .ne 7, 3) := by decide +kernel
theorem dL_isBoard_41 : decode cL_isBoard 41 = .ok (.iconst 1, 1) := by decide +kernel
theorem dL_isBoard_42 : decode cL_isBoard 42 = .ok (.goto 4, 3) := by decide +kernel
theorem dL_isBoard_45 : decode cL_isBoard 45 = .ok (.iconst 0, 1) := by decide +kernel
theorem dL_isBoard_46 : decode cL_isBoard 46 = .ok (.istore 7, 2) := by decide +kernel
theorem dL_isBoard_48 : decode cL_isBoard 48 = .ok (.iconst 0, 1) := by decide +kernel
theorem dL_isBoard_49 : decode cL_isBoard 49 = .ok (.istore 8, 2) := by decide +kernel
theorem dL_isBoard_51 : decode cL_isBoard 51 = .ok (.iload 8, 2) := by decide +kernel
theorem dL_isBoard_53 : decode cL_isBoard 53 = .ok (.bipush 49, 2) := by decide +kernel
theorem dL_isBoard_55 : decode cL_isBoard 55 = .ok (.if_icmp .ge 179, 3) := by decide +kernel
theorem dL_isBoard_58 : decode cL_isBoard 58 = .ok (.iload 7, 2) := by decide +kernel
theorem dL_isBoard_60 : decode cL_isBoard 60 = .ok (.ifCond .eq 174, 3) := by decide +kernel
theorem dL_isBoard_63 : decode cL_isBoard 63 = .ok (.aload_n 1, 1) := by decide +kernel
theorem dL_isBoard_64 : decode cL_isBoard 64 = .ok (.iload 6, 2) := by decide +kernel
theorem dL_isBoard_66 : decode cL_isBoard 66 = .ok (.laload, 1) := by decide +kernel
theorem dL_isBoard_67 : decode cL_isBoard 67 = .ok (.iload 8, 2) := by decide +kernel
theorem dL_isBoard_69 : decode cL_isBoard 69 = .ok (.lshr, 1) := by decide +kernel
theorem dL_isBoard_70 : decode cL_isBoard 70 = .ok (.lconst 1, 1) := by decide +kernel
theorem dL_isBoard_71 : decode cL_isBoard 71 = .ok (.land, 1) := by decide +kernel
theorem dL_isBoard_72 : decode cL_isBoard 72 = .ok (.lconst 1, 1) := by decide +kernel
theorem dL_isBoard_73 : decode cL_isBoard 73 = .ok (.lcmp, 1) := by decide +kernel
theorem dL_isBoard_74 : decode cL_isBoard 74 = .ok (.ifCond .ne 7, 3) := by decide +kernel
theorem dL_isBoard_77 : decode cL_isBoard 77 = .ok (.iconst 1, 1) := by decide +kernel
theorem dL_isBoard_78 : decode cL_isBoard 78 = .ok (.goto 4, 3) := by decide +kernel
theorem dL_isBoard_81 : decode cL_isBoard 81 = .ok (.iconst 0, 1) := by decide +kernel
theorem dL_isBoard_82 : decode cL_isBoard 82 = .ok (.istore 9, 2) := by decide +kernel
theorem dL_isBoard_84 : decode cL_isBoard 84 = .ok (.aload_n 2, 1) := by decide +kernel
theorem dL_isBoard_85 : decode cL_isBoard 85 = .ok (.iload 6, 2) := by decide +kernel
theorem dL_isBoard_87 : decode cL_isBoard 87 = .ok (.laload, 1) := by decide +kernel
theorem dL_isBoard_88 : decode cL_isBoard 88 = .ok (.iload 8, 2) := by decide +kernel
theorem dL_isBoard_90 : decode cL_isBoard 90 = .ok (.lshr, 1) := by decide +kernel
theorem dL_isBoard_91 : decode cL_isBoard 91 = .ok (.lconst 1, 1) := by decide +kernel
theorem dL_isBoard_92 : decode cL_isBoard 92 = .ok (.land, 1) := by decide +kernel
theorem dL_isBoard_93 : decode cL_isBoard 93 = .ok (.lconst 1, 1) := by decide +kernel
theorem dL_isBoard_94 : decode cL_isBoard 94 = .ok (.lcmp, 1) := by decide +kernel
theorem dL_isBoard_95 : decode cL_isBoard 95 = .ok (.ifCond .ne 7, 3) := by decide +kernel
theorem dL_isBoard_98 : decode cL_isBoard 98 = .ok (.iconst 1, 1) := by decide +kernel
theorem dL_isBoard_99 : decode cL_isBoard 99 = .ok (.goto 4, 3) := by decide +kernel
theorem dL_isBoard_102 : decode cL_isBoard 102 = .ok (.iconst 0, 1) := by decide +kernel
theorem dL_isBoard_103 : decode cL_isBoard 103 = .ok (.istore 10, 2) := by decide +kernel
theorem dL_isBoard_105 : decode cL_isBoard 105 = .ok (.iload 9, 2) := by decide +kernel
theorem dL_isBoard_107 : decode cL_isBoard 107 = .ok (.ifCond .ne 12, 3) := by decide +kernel
theorem dL_isBoard_110 : decode cL_isBoard 110 = .ok (.iload 10, 2) := by decide +kernel
theorem dL_isBoard_112 : decode cL_isBoard 112 = .ok (.ifCond .ne 7, 3) := by decide +kernel
theorem dL_isBoard_115 : decode cL_isBoard 115 = .ok (.iconst 0, 1) := by decide +kernel
theorem dL_isBoard_116 : decode cL_isBoard 116 = .ok (.goto 44, 3) := by decide +kernel
theorem dL_isBoard_119 : decode cL_isBoard 119 = .ok (.iload 9, 2) := by decide +kernel
theorem dL_isBoard_121 : decode cL_isBoard 121 = .ok (.ifCond .eq 10, 3) := by decide +kernel
theorem dL_isBoard_124 : decode cL_isBoard 124 = .ok (.aload_n 1, 1) := by decide +kernel
theorem dL_isBoard_125 : decode cL_isBoard 125 = .ok (.iload 6, 2) := by decide +kernel
theorem dL_isBoard_127 : decode cL_isBoard 127 = .ok (.laload, 1) := by decide +kernel
theorem dL_isBoard_128 : decode cL_isBoard 128 = .ok (.goto 7, 3) := by decide +kernel
theorem dL_isBoard_131 : decode cL_isBoard 131 = .ok (.aload_n 2, 1) := by decide +kernel
theorem dL_isBoard_132 : decode cL_isBoard 132 = .ok (.iload 6, 2) := by decide +kernel
theorem dL_isBoard_134 : decode cL_isBoard 134 = .ok (.laload, 1) := by decide +kernel
theorem dL_isBoard_135 : decode cL_isBoard 135 = .ok (.iload 8, 2) := by decide +kernel
theorem dL_isBoard_137 : decode cL_isBoard 137 = .ok (.invokestatic 102, 3) := by decide +kernel
theorem dL_isBoard_140 : decode cL_isBoard 140 = .ok (.invokestatic 96, 3) := by decide +kernel
theorem dL_isBoard_143 : decode cL_isBoard 143 = .ok (.aload_n 1, 1) := by decide +kernel
theorem dL_isBoard_144 : decode cL_isBoard 144 = .ok (.iload 6, 2) := by decide +kernel
theorem dL_isBoard_146 : decode cL_isBoard 146 = .ok (.laload, 1) := by decide +kernel
theorem dL_isBoard_147 : decode cL_isBoard 147 = .ok (.aload_n 2, 1) := by decide +kernel
theorem dL_isBoard_148 : decode cL_isBoard 148 = .ok (.iload 6, 2) := by decide +kernel
theorem dL_isBoard_150 : decode cL_isBoard 150 = .ok (.laload, 1) := by decide +kernel
theorem dL_isBoard_151 : decode cL_isBoard 151 = .ok (.lor, 1) := by decide +kernel
theorem dL_isBoard_152 : decode cL_isBoard 152 = .ok (.ldc2_w 92, 3) := by decide +kernel
theorem dL_isBoard_155 : decode cL_isBoard 155 = .ok (.lxor, 1) := by decide +kernel
theorem dL_isBoard_156 : decode cL_isBoard 156 = .ok (.land, 1) := by decide +kernel
theorem dL_isBoard_157 : decode cL_isBoard 157 = .ok (.invokestatic 106, 3) := by decide +kernel
theorem dL_isBoard_160 : decode cL_isBoard 160 = .ok (.istore 11, 2) := by decide +kernel
theorem dL_isBoard_162 : decode cL_isBoard 162 = .ok (.aload_n 0, 1) := by decide +kernel
theorem dL_isBoard_163 : decode cL_isBoard 163 = .ok (.iload 5, 2) := by decide +kernel
theorem dL_isBoard_165 : decode cL_isBoard 165 = .ok (.iload 8, 2) := by decide +kernel
theorem dL_isBoard_167 : decode cL_isBoard 167 = .ok (.invokevirtual 66, 3) := by decide +kernel
theorem dL_isBoard_170 : decode cL_isBoard 170 = .ok (.iload 9, 2) := by decide +kernel
theorem dL_isBoard_172 : decode cL_isBoard 172 = .ok (.ifCond .eq 8, 3) := by decide +kernel
theorem dL_isBoard_175 : decode cL_isBoard 175 = .ok (.bipush 88, 2) := by decide +kernel
theorem dL_isBoard_177 : decode cL_isBoard 177 = .ok (.goto 15, 3) := by decide +kernel
theorem dL_isBoard_180 : decode cL_isBoard 180 = .ok (.iload 10, 2) := by decide +kernel
theorem dL_isBoard_182 : decode cL_isBoard 182 = .ok (.ifCond .eq 8, 3) := by decide +kernel
theorem dL_isBoard_185 : decode cL_isBoard 185 = .ok (.bipush 79, 2) := by decide +kernel
theorem dL_isBoard_187 : decode cL_isBoard 187 = .ok (.goto 5, 3) := by decide +kernel
theorem dL_isBoard_190 : decode cL_isBoard 190 = .ok (.bipush 46, 2) := by decide +kernel
theorem dL_isBoard_192 : decode cL_isBoard 192 = .ok (.if_icmp .ne 33, 3) := by decide +kernel
theorem dL_isBoard_195 : decode cL_isBoard 195 = .ok (.aload_n 0, 1) := by decide +kernel
theorem dL_isBoard_196 : decode cL_isBoard 196 = .ok (.iload 5, 2) := by decide +kernel
theorem dL_isBoard_198 : decode cL_isBoard 198 = .ok (.iload 8, 2) := by decide +kernel
theorem dL_isBoard_200 : decode cL_isBoard 200 = .ok (.invokevirtual 76, 3) := by decide +kernel
theorem dL_isBoard_203 : decode cL_isBoard 203 = .ok (.iload 11, 2) := by decide +kernel
theorem dL_isBoard_205 : decode cL_isBoard 205 = .ok (.if_icmp .ne 20, 3) := by decide +kernel
theorem dL_isBoard_208 : decode cL_isBoard 208 = .ok (.aload_n 0, 1) := by decide +kernel
theorem dL_isBoard_209 : decode cL_isBoard 209 = .ok (.iload 5, 2) := by decide +kernel
theorem dL_isBoard_211 : decode cL_isBoard 211 = .ok (.iload 8, 2) := by decide +kernel
theorem dL_isBoard_213 : decode cL_isBoard 213 = .ok (.invokevirtual 79, 3) := by decide +kernel
theorem dL_isBoard_216 : decode cL_isBoard 216 = .ok (.iload 11, 2) := by decide +kernel
theorem dL_isBoard_218 : decode cL_isBoard 218 = .ok (.if_icmp .ne 7, 3) := by decide +kernel
theorem dL_isBoard_221 : decode cL_isBoard 221 = .ok (.iconst 1, 1) := by decide +kernel
theorem dL_isBoard_222 : decode cL_isBoard 222 = .ok (.goto 4, 3) := by decide +kernel
theorem dL_isBoard_225 : decode cL_isBoard 225 = .ok (.iconst 0, 1) := by decide +kernel
theorem dL_isBoard_226 : decode cL_isBoard 226 = .ok (.istore 7, 2) := by decide +kernel
theorem dL_isBoard_228 : decode cL_isBoard 228 = .ok (.iinc 8 1, 3) := by decide +kernel
theorem dL_isBoard_231 : decode cL_isBoard 231 = .ok (.goto (-180), 3) := by decide +kernel
theorem dL_isBoard_234 : decode cL_isBoard 234 = .ok (.iload 7, 2) := by decide +kernel
theorem dL_isBoard_236 : decode cL_isBoard 236 = .ok (.ireturn, 1) := by decide +kernel
theorem dL_areNodes_0 : decode cL_areNodes 0 = .ok (.aload_n 0, 1) := by decide +kernel
theorem dL_areNodes_1 : decode cL_areNodes 1 = .ok (.bipush 9, 2) := by decide +kernel
theorem dL_areNodes_3 : decode cL_areNodes 3 = .ok (.aload_n 3, 1) := by decide +kernel
theorem dL_areNodes_4 : decode cL_areNodes 4 = .ok (.iconst 4, 1) := by decide +kernel
theorem dL_areNodes_5 : decode cL_areNodes 5 = .ok (.iaload, 1) := by decide +kernel
theorem dL_areNodes_6 : decode cL_areNodes 6 = .ok (.iconst 0, 1) := by decide +kernel
theorem dL_areNodes_7 : decode cL_areNodes 7 = .ok (.invokestatic 125, 3) := by decide +kernel
theorem dL_areNodes_10 : decode cL_areNodes 10 = .ok (.sipush (-3000), 3) := by decide +kernel
theorem dL_areNodes_13 : decode cL_areNodes 13 = .ok (.if_icmp .ne 21, 3) := by decide +kernel
theorem dL_areNodes_16 : decode cL_areNodes 16 = .ok (.aload_n 0, 1) := by decide +kernel
theorem dL_areNodes_17 : decode cL_areNodes 17 = .ok (.bipush 9, 2) := by decide +kernel
theorem dL_areNodes_19 : decode cL_areNodes 19 = .ok (.iconst (-1), 1) := by decide +kernel
theorem dL_areNodes_20 : decode cL_areNodes 20 = .ok (.iconst 0, 1) := by decide +kernel
theorem dL_areNodes_21 : decode cL_areNodes 21 = .ok (.invokestatic 125, 3) := by decide +kernel
theorem dL_areNodes_24 : decode cL_areNodes 24 = .ok (.sipush (-3000), 3) := by decide +kernel
theorem dL_areNodes_27 : decode cL_areNodes 27 = .ok (.if_icmp .ne 7, 3) := by decide +kernel
theorem dL_areNodes_30 : decode cL_areNodes 30 = .ok (.iconst 1, 1) := by decide +kernel
theorem dL_areNodes_31 : decode cL_areNodes 31 = .ok (.goto 4, 3) := by decide +kernel
theorem dL_areNodes_34 : decode cL_areNodes 34 = .ok (.iconst 0, 1) := by decide +kernel
theorem dL_areNodes_35 : decode cL_areNodes 35 = .ok (.istore 4, 2) := by decide +kernel
theorem dL_areNodes_37 : decode cL_areNodes 37 = .ok (.iconst 0, 1) := by decide +kernel
theorem dL_areNodes_38 : decode cL_areNodes 38 = .ok (.istore 5, 2) := by decide +kernel
theorem dL_areNodes_40 : decode cL_areNodes 40 = .ok (.iload 5, 2) := by decide +kernel
theorem dL_areNodes_42 : decode cL_areNodes 42 = .ok (.aload_n 3, 1) := by decide +kernel
theorem dL_areNodes_43 : decode cL_areNodes 43 = .ok (.iconst 4, 1) := by decide +kernel
theorem dL_areNodes_44 : decode cL_areNodes 44 = .ok (.iaload, 1) := by decide +kernel
theorem dL_areNodes_45 : decode cL_areNodes 45 = .ok (.if_icmp .ge 173, 3) := by decide +kernel
theorem dL_areNodes_48 : decode cL_areNodes 48 = .ok (.iload 4, 2) := by decide +kernel
theorem dL_areNodes_50 : decode cL_areNodes 50 = .ok (.ifCond .eq 168, 3) := by decide +kernel
theorem dL_areNodes_53 : decode cL_areNodes 53 = .ok (.iconst 0, 1) := by decide +kernel
theorem dL_areNodes_54 : decode cL_areNodes 54 = .ok (.istore 6, 2) := by decide +kernel
theorem dL_areNodes_56 : decode cL_areNodes 56 = .ok (.iconst 0, 1) := by decide +kernel
theorem dL_areNodes_57 : decode cL_areNodes 57 = .ok (.istore 7, 2) := by decide +kernel
theorem dL_areNodes_59 : decode cL_areNodes 59 = .ok (.iload 7, 2) := by decide +kernel
theorem dL_areNodes_61 : decode cL_areNodes 61 = .ok (.aload_n 3, 1) := by decide +kernel
theorem dL_areNodes_62 : decode cL_areNodes 62 = .ok (.iconst 4, 1) := by decide +kernel
theorem dL_areNodes_63 : decode cL_areNodes 63 = .ok (.iaload, 1) := by decide +kernel
theorem dL_areNodes_64 : decode cL_areNodes 64 = .ok (.if_icmp .ge 33, 3) := by decide +kernel
theorem dL_areNodes_67 : decode cL_areNodes 67 = .ok (.iload 6, 2) := by decide +kernel
theorem dL_areNodes_69 : decode cL_areNodes 69 = .ok (.aload_n 1, 1) := by decide +kernel
theorem dL_areNodes_70 : decode cL_areNodes 70 = .ok (.iload 7, 2) := by decide +kernel
theorem dL_areNodes_72 : decode cL_areNodes 72 = .ok (.iaload, 1) := by decide +kernel
theorem dL_areNodes_73 : decode cL_areNodes 73 = .ok (.bipush 64, 2) := by decide +kernel
theorem dL_areNodes_75 : decode cL_areNodes 75 = .ok (.irem, 1) := by decide +kernel
theorem dL_areNodes_76 : decode cL_areNodes 76 = .ok (.iload 5, 2) := by decide +kernel
theorem dL_areNodes_78 : decode cL_areNodes 78 = .ok (.iconst 1, 1) := by decide +kernel
theorem dL_areNodes_79 : decode cL_areNodes 79 = .ok (.iadd, 1) := by decide +kernel
theorem dL_areNodes_80 : decode cL_areNodes 80 = .ok (.if_icmp .ne 7, 3) := by decide +kernel
theorem dL_areNodes_83 : decode cL_areNodes 83 = .ok (.iconst 1, 1) := by decide +kernel
theorem dL_areNodes_84 : decode cL_areNodes 84 = .ok (.goto 4, 3) := by decide +kernel
theorem dL_areNodes_87 : decode cL_areNodes 87 = .ok (.iconst 0, 1) := by decide +kernel
theorem dL_areNodes_88 : decode cL_areNodes 88 = .ok (.iadd, 1) := by decide +kernel
theorem dL_areNodes_89 : decode cL_areNodes 89 = .ok (.istore 6, 2) := by decide +kernel
theorem dL_areNodes_91 : decode cL_areNodes 91 = .ok (.iinc 7 1, 3) := by decide +kernel
theorem dL_areNodes_94 : decode cL_areNodes 94 = .ok (.goto (-35), 3) := by decide +kernel
theorem dL_areNodes_97 : decode cL_areNodes 97 = .ok (.iconst 0, 1) := by decide +kernel
theorem dL_areNodes_98 : decode cL_areNodes 98 = .ok (.istore 7, 2) := by decide +kernel
theorem dL_areNodes_100 : decode cL_areNodes 100 = .ok (.iconst 0, 1) := by decide +kernel
theorem dL_areNodes_101 : decode cL_areNodes 101 = .ok (.istore 8, 2) := by decide +kernel
theorem dL_areNodes_103 : decode cL_areNodes 103 = .ok (.aload_n 2, 1) := by decide +kernel
theorem dL_areNodes_104 : decode cL_areNodes 104 = .ok (.iload 5, 2) := by decide +kernel
theorem dL_areNodes_106 : decode cL_areNodes 106 = .ok (.iaload, 1) := by decide +kernel
theorem dL_areNodes_107 : decode cL_areNodes 107 = .ok (.istore 9, 2) := by decide +kernel
theorem dL_areNodes_109 : decode cL_areNodes 109 = .ok (.iload 9, 2) := by decide +kernel
theorem dL_areNodes_111 : decode cL_areNodes 111 = .ok (.ifCond .le 52, 3) := by decide +kernel
theorem dL_areNodes_114 : decode cL_areNodes 114 = .ok (.iload 7, 2) := by decide +kernel
theorem dL_areNodes_116 : decode cL_areNodes 116 = .ok (.ifCond .ne 11, 3) := by decide +kernel
theorem dL_areNodes_119 : decode cL_areNodes 119 = .ok (.iload 9, 2) := by decide +kernel
theorem dL_areNodes_121 : decode cL_areNodes 121 = .ok (.iconst 4, 1) := by decide +kernel
theorem dL_areNodes_122 : decode cL_areNodes 122 = .ok (.irem, 1) := by decide +kernel
theorem dL_areNodes_123 : decode cL_areNodes 123 = .ok (.iconst 1, 1) := by decide +kernel
theorem dL_areNodes_124 : decode cL_areNodes 124 = .ok (.if_icmp .ne 7, 3) := by decide +kernel
theorem dL_areNodes_127 : decode cL_areNodes 127 = .ok (.iconst 1, 1) := by decide +kernel
theorem dL_areNodes_128 : decode cL_areNodes 128 = .ok (.goto 4, 3) := by decide +kernel
theorem dL_areNodes_131 : decode cL_areNodes 131 = .ok (.iconst 0, 1) := by decide +kernel
theorem dL_areNodes_132 : decode cL_areNodes 132 = .ok (.istore 7, 2) := by decide +kernel
theorem dL_areNodes_134 : decode cL_areNodes 134 = .ok (.iload 8, 2) := by decide +kernel
theorem dL_areNodes_136 : decode cL_areNodes 136 = .ok (.ifCond .ne 11, 3) := by decide +kernel
theorem dL_areNodes_139 : decode cL_areNodes 139 = .ok (.iload 9, 2) := by decide +kernel
theorem dL_areNodes_141 : decode cL_areNodes 141 = .ok (.iconst 4, 1) := by decide +kernel
theorem dL_areNodes_142 : decode cL_areNodes 142 = .ok (.irem, 1) := by decide +kernel
theorem dL_areNodes_143 : decode cL_areNodes 143 = .ok (.iconst 2, 1) := by decide +kernel
theorem dL_areNodes_144 : decode cL_areNodes 144 = .ok (.if_icmp .ne 7, 3) := by decide +kernel
theorem dL_areNodes_147 : decode cL_areNodes 147 = .ok (.iconst 1, 1) := by decide +kernel
theorem dL_areNodes_148 : decode cL_areNodes 148 = .ok (.goto 4, 3) := by decide +kernel
theorem dL_areNodes_151 : decode cL_areNodes 151 = .ok (.iconst 0, 1) := by decide +kernel
theorem dL_areNodes_152 : decode cL_areNodes 152 = .ok (.istore 8, 2) := by decide +kernel
theorem dL_areNodes_154 : decode cL_areNodes 154 = .ok (.iload 9, 2) := by decide +kernel
theorem dL_areNodes_156 : decode cL_areNodes 156 = .ok (.iconst 4, 1) := by decide +kernel
theorem dL_areNodes_157 : decode cL_areNodes 157 = .ok (.idiv, 1) := by decide +kernel
theorem dL_areNodes_158 : decode cL_areNodes 158 = .ok (.istore 9, 2) := by decide +kernel
theorem dL_areNodes_160 : decode cL_areNodes 160 = .ok (.goto (-51), 3) := by decide +kernel
theorem dL_areNodes_163 : decode cL_areNodes 163 = .ok (.aload_n 0, 1) := by decide +kernel
theorem dL_areNodes_164 : decode cL_areNodes 164 = .ok (.iload 5, 2) := by decide +kernel
theorem dL_areNodes_166 : decode cL_areNodes 166 = .ok (.invokevirtual 85, 3) := by decide +kernel
theorem dL_areNodes_169 : decode cL_areNodes 169 = .ok (.sipush 1000, 3) := by decide +kernel
theorem dL_areNodes_172 : decode cL_areNodes 172 = .ok (.iload 6, 2) := by decide +kernel
theorem dL_areNodes_174 : decode cL_areNodes 174 = .ok (.imul, 1) := by decide +kernel
theorem dL_areNodes_175 : decode cL_areNodes 175 = .ok (.bipush 10, 2) := by decide +kernel
theorem dL_areNodes_177 : decode cL_areNodes 177 = .ok (.aload_n 1, 1) := by decide +kernel
theorem dL_areNodes_178 : decode cL_areNodes 178 = .ok (.iload 5, 2) := by decide +kernel
theorem dL_areNodes_180 : decode cL_areNodes 180 = .ok (.iaload, 1) := by decide +kernel
theorem dL_areNodes_181 : decode cL_areNodes 181 = .ok (.bipush 64, 2) := by decide +kernel
theorem dL_areNodes_183 : decode cL_areNodes 183 = .ok (.idiv, 1) := by decide +kernel
theorem dL_areNodes_184 : decode cL_areNodes 184 = .ok (.imul, 1) := by decide +kernel
theorem dL_areNodes_185 : decode cL_areNodes 185 = .ok (.iadd, 1) := by decide +kernel
theorem dL_areNodes_186 : decode cL_areNodes 186 = .ok (.iload 7, 2) := by decide +kernel
theorem dL_areNodes_188 : decode cL_areNodes 188 = .ok (.ifCond .eq 12, 3) := by decide +kernel
theorem dL_areNodes_191 : decode cL_areNodes 191 = .ok (.iload 8, 2) := by decide +kernel
theorem dL_areNodes_193 : decode cL_areNodes 193 = .ok (.ifCond .eq 7, 3) := by decide +kernel
theorem dL_areNodes_196 : decode cL_areNodes 196 = .ok (.iconst 1, 1) := by decide +kernel
theorem dL_areNodes_197 : decode cL_areNodes 197 = .ok (.goto 4, 3) := by decide +kernel
theorem dL_areNodes_200 : decode cL_areNodes 200 = .ok (.iconst 0, 1) := by decide +kernel
theorem dL_areNodes_201 : decode cL_areNodes 201 = .ok (.iadd, 1) := by decide +kernel
theorem dL_areNodes_202 : decode cL_areNodes 202 = .ok (.if_icmp .ne 7, 3) := by decide +kernel
theorem dL_areNodes_205 : decode cL_areNodes 205 = .ok (.iconst 1, 1) := by decide +kernel
theorem dL_areNodes_206 : decode cL_areNodes 206 = .ok (.goto 4, 3) := by decide +kernel
theorem dL_areNodes_209 : decode cL_areNodes 209 = .ok (.iconst 0, 1) := by decide +kernel
theorem dL_areNodes_210 : decode cL_areNodes 210 = .ok (.istore 4, 2) := by decide +kernel
theorem dL_areNodes_212 : decode cL_areNodes 212 = .ok (.iinc 5 1, 3) := by decide +kernel
theorem dL_areNodes_215 : decode cL_areNodes 215 = .ok (.goto (-175), 3) := by decide +kernel
theorem dL_areNodes_218 : decode cL_areNodes 218 = .ok (.iload 4, 2) := by decide +kernel
theorem dL_areNodes_220 : decode cL_areNodes 220 = .ok (.ireturn, 1) := by decide +kernel
theorem dL_runsOut_0 : decode cL_runsOut 0 = .ok (.bipush 16, 2) := by decide +kernel
theorem dL_runsOut_2 : decode cL_runsOut 2 = .ok (.iload_n 2, 1) := by decide +kernel
theorem dL_runsOut_3 : decode cL_runsOut 3 = .ok (.imul, 1) := by decide +kernel
theorem dL_runsOut_4 : decode cL_runsOut 4 = .ok (.iload_n 1, 1) := by decide +kernel
theorem dL_runsOut_5 : decode cL_runsOut 5 = .ok (.iadd, 1) := by decide +kernel
theorem dL_runsOut_6 : decode cL_runsOut 6 = .ok (.istore 4, 2) := by decide +kernel
theorem dL_runsOut_8 : decode cL_runsOut 8 = .ok (.iload_n 3, 1) := by decide +kernel
theorem dL_runsOut_9 : decode cL_runsOut 9 = .ok (.aload_n 0, 1) := by decide +kernel
theorem dL_runsOut_10 : decode cL_runsOut 10 = .ok (.iload 4, 2) := by decide +kernel
theorem dL_runsOut_12 : decode cL_runsOut 12 = .ok (.iaload, 1) := by decide +kernel
theorem dL_runsOut_13 : decode cL_runsOut 13 = .ok (.isub, 1) := by decide +kernel
theorem dL_runsOut_14 : decode cL_runsOut 14 = .ok (.istore 5, 2) := by decide +kernel
theorem dL_runsOut_16 : decode cL_runsOut 16 = .ok (.aload_n 0, 1) := by decide +kernel
theorem dL_runsOut_17 : decode cL_runsOut 17 = .ok (.iload 4, 2) := by decide +kernel
theorem dL_runsOut_19 : decode cL_runsOut 19 = .ok (.iload 5, 2) := by decide +kernel
theorem dL_runsOut_21 : decode cL_runsOut 21 = .ok (.ifCond .le 7, 3) := by decide +kernel
theorem dL_runsOut_24 : decode cL_runsOut 24 = .ok (.iconst 0, 1) := by decide +kernel
theorem dL_runsOut_25 : decode cL_runsOut 25 = .ok (.goto 9, 3) := by decide +kernel
theorem dL_runsOut_28 : decode cL_runsOut 28 = .ok (.aload_n 0, 1) := by decide +kernel
theorem dL_runsOut_29 : decode cL_runsOut 29 = .ok (.iload 4, 2) := by decide +kernel
theorem dL_runsOut_31 : decode cL_runsOut 31 = .ok (.iaload, 1) := by decide +kernel
theorem dL_runsOut_32 : decode cL_runsOut 32 = .ok (.iload_n 3, 1) := by decide +kernel
theorem dL_runsOut_33 : decode cL_runsOut 33 = .ok (.isub, 1) := by decide +kernel
theorem dL_runsOut_34 : decode cL_runsOut 34 = .ok (.iastore, 1) := by decide +kernel
theorem dL_runsOut_35 : decode cL_runsOut 35 = .ok (.iload 5, 2) := by decide +kernel
theorem dL_runsOut_37 : decode cL_runsOut 37 = .ok (.iconst 1, 1) := by decide +kernel
theorem dL_runsOut_38 : decode cL_runsOut 38 = .ok (.if_icmp .ge 5, 3) := by decide +kernel
theorem dL_runsOut_41 : decode cL_runsOut 41 = .ok (.iconst 0, 1) := by decide +kernel
theorem dL_runsOut_42 : decode cL_runsOut 42 = .ok (.ireturn, 1) := by decide +kernel
theorem dL_runsOut_43 : decode cL_runsOut 43 = .ok (.iload_n 2, 1) := by decide +kernel
theorem dL_runsOut_44 : decode cL_runsOut 44 = .ok (.ifCond .ne 15, 3) := by decide +kernel
theorem dL_runsOut_47 : decode cL_runsOut 47 = .ok (.aload_n 0, 1) := by decide +kernel
theorem dL_runsOut_48 : decode cL_runsOut 48 = .ok (.bipush 32, 2) := by decide +kernel
theorem dL_runsOut_50 : decode cL_runsOut 50 = .ok (.iload_n 1, 1) := by decide +kernel
theorem dL_runsOut_51 : decode cL_runsOut 51 = .ok (.iadd, 1) := by decide +kernel
theorem dL_runsOut_52 : decode cL_runsOut 52 = .ok (.iaload, 1) := by decide +kernel
theorem dL_runsOut_53 : decode cL_runsOut 53 = .ok (.bipush 10, 2) := by decide +kernel
theorem dL_runsOut_55 : decode cL_runsOut 55 = .ok (.idiv, 1) := by decide +kernel
theorem dL_runsOut_56 : decode cL_runsOut 56 = .ok (.goto 12, 3) := by decide +kernel
theorem dL_runsOut_59 : decode cL_runsOut 59 = .ok (.aload_n 0, 1) := by decide +kernel
theorem dL_runsOut_60 : decode cL_runsOut 60 = .ok (.bipush 32, 2) := by decide +kernel
theorem dL_runsOut_62 : decode cL_runsOut 62 = .ok (.iload_n 1, 1) := by decide +kernel
theorem dL_runsOut_63 : decode cL_runsOut 63 = .ok (.iadd, 1) := by decide +kernel
theorem dL_runsOut_64 : decode cL_runsOut 64 = .ok (.iaload, 1) := by decide +kernel
theorem dL_runsOut_65 : decode cL_runsOut 65 = .ok (.bipush 10, 2) := by decide +kernel
theorem dL_runsOut_67 : decode cL_runsOut 67 = .ok (.irem, 1) := by decide +kernel
theorem dL_runsOut_68 : decode cL_runsOut 68 = .ok (.istore 6, 2) := by decide +kernel
theorem dL_runsOut_70 : decode cL_runsOut 70 = .ok (.iload 5, 2) := by decide +kernel
theorem dL_runsOut_72 : decode cL_runsOut 72 = .ok (.iconst 1, 1) := by decide +kernel
theorem dL_runsOut_73 : decode cL_runsOut 73 = .ok (.isub, 1) := by decide +kernel
theorem dL_runsOut_74 : decode cL_runsOut 74 = .ok (.aload_n 0, 1) := by decide +kernel
theorem dL_runsOut_75 : decode cL_runsOut 75 = .ok (.bipush 48, 2) := by decide +kernel
theorem dL_runsOut_77 : decode cL_runsOut 77 = .ok (.iload_n 1, 1) := by decide +kernel
theorem dL_runsOut_78 : decode cL_runsOut 78 = .ok (.iadd, 1) := by decide +kernel
theorem dL_runsOut_79 : decode cL_runsOut 79 = .ok (.iaload, 1) := by decide +kernel
theorem dL_runsOut_80 : decode cL_runsOut 80 = .ok (.idiv, 1) := by decide +kernel
theorem dL_runsOut_81 : decode cL_runsOut 81 = .ok (.istore 7, 2) := by decide +kernel
theorem dL_runsOut_83 : decode cL_runsOut 83 = .ok (.iload 7, 2) := by decide +kernel
theorem dL_runsOut_85 : decode cL_runsOut 85 = .ok (.iload 6, 2) := by decide +kernel
theorem dL_runsOut_87 : decode cL_runsOut 87 = .ok (.if_icmp .le 8, 3) := by decide +kernel
theorem dL_runsOut_90 : decode cL_runsOut 90 = .ok (.iload 6, 2) := by decide +kernel
theorem dL_runsOut_92 : decode cL_runsOut 92 = .ok (.goto 5, 3) := by decide +kernel
theorem dL_runsOut_95 : decode cL_runsOut 95 = .ok (.iload 7, 2) := by decide +kernel
theorem dL_runsOut_97 : decode cL_runsOut 97 = .ok (.istore 7, 2) := by decide +kernel
theorem dL_runsOut_99 : decode cL_runsOut 99 = .ok (.aload_n 0, 1) := by decide +kernel
theorem dL_runsOut_100 : decode cL_runsOut 100 = .ok (.bipush 32, 2) := by decide +kernel
theorem dL_runsOut_102 : decode cL_runsOut 102 = .ok (.iload_n 1, 1) := by decide +kernel
theorem dL_runsOut_103 : decode cL_runsOut 103 = .ok (.iadd, 1) := by decide +kernel
theorem dL_runsOut_104 : decode cL_runsOut 104 = .ok (.dup2, 1) := by decide +kernel
theorem dL_runsOut_105 : decode cL_runsOut 105 = .ok (.iaload, 1) := by decide +kernel
theorem dL_runsOut_106 : decode cL_runsOut 106 = .ok (.iload_n 2, 1) := by decide +kernel
theorem dL_runsOut_107 : decode cL_runsOut 107 = .ok (.ifCond .ne 11, 3) := by decide +kernel
theorem dL_runsOut_110 : decode cL_runsOut 110 = .ok (.bipush 10, 2) := by decide +kernel
theorem dL_runsOut_112 : decode cL_runsOut 112 = .ok (.iload 7, 2) := by decide +kernel
theorem dL_runsOut_114 : decode cL_runsOut 114 = .ok (.imul, 1) := by decide +kernel
theorem dL_runsOut_115 : decode cL_runsOut 115 = .ok (.goto 5, 3) := by decide +kernel
theorem dL_runsOut_118 : decode cL_runsOut 118 = .ok (.iload 7, 2) := by decide +kernel
theorem dL_runsOut_120 : decode cL_runsOut 120 = .ok (.isub, 1) := by decide +kernel
theorem dL_runsOut_121 : decode cL_runsOut 121 = .ok (.iastore, 1) := by decide +kernel
theorem dL_runsOut_122 : decode cL_runsOut 122 = .ok (.iload 6, 2) := by decide +kernel
theorem dL_runsOut_124 : decode cL_runsOut 124 = .ok (.iload 7, 2) := by decide +kernel
theorem dL_runsOut_126 : decode cL_runsOut 126 = .ok (.if_icmp .ne 7, 3) := by decide +kernel
theorem dL_runsOut_129 : decode cL_runsOut 129 = .ok (.iconst 1, 1) := by decide +kernel
theorem dL_runsOut_130 : decode cL_runsOut 130 = .ok (.goto 4, 3) := by decide +kernel
theorem dL_runsOut_133 : decode cL_runsOut 133 = .ok (.iconst 0, 1) := by decide +kernel
theorem dL_runsOut_134 : decode cL_runsOut 134 = .ok (.ireturn, 1) := by decide +kernel
theorem dL_isPlayed_0 : decode cL_isPlayed 0 = .ok (.iload 10, 2) := by decide +kernel
theorem dL_isPlayed_2 : decode cL_isPlayed 2 = .ok (.aload 8, 2) := by decide +kernel
theorem dL_isPlayed_4 : decode cL_isPlayed 4 = .ok (.iconst 1, 1) := by decide +kernel
theorem dL_isPlayed_5 : decode cL_isPlayed 5 = .ok (.iaload, 1) := by decide +kernel
theorem dL_isPlayed_6 : decode cL_isPlayed 6 = .ok (.if_icmp .ge 14, 3) := by decide +kernel
theorem dL_isPlayed_9 : decode cL_isPlayed 9 = .ok (.iload 11, 2) := by decide +kernel
theorem dL_isPlayed_11 : decode cL_isPlayed 11 = .ok (.bipush 49, 2) := by decide +kernel
theorem dL_isPlayed_13 : decode cL_isPlayed 13 = .ok (.if_icmp .ge 7, 3) := by decide +kernel
theorem dL_isPlayed_16 : decode cL_isPlayed 16 = .ok (.iconst 1, 1) := by decide +kernel
theorem dL_isPlayed_17 : decode cL_isPlayed 17 = .ok (.goto 4, 3) := by decide +kernel
theorem dL_isPlayed_20 : decode cL_isPlayed 20 = .ok (.iconst 0, 1) := by decide +kernel
theorem dL_isPlayed_21 : decode cL_isPlayed 21 = .ok (.istore 13, 2) := by decide +kernel
theorem dL_isPlayed_23 : decode cL_isPlayed 23 = .ok (.iload 13, 2) := by decide +kernel
theorem dL_isPlayed_25 : decode cL_isPlayed 25 = .ok (.ifCond .eq 14, 3) := by decide +kernel
theorem dL_isPlayed_28 : decode cL_isPlayed 28 = .ok (.aload_n 3, 1) := by decide +kernel
theorem dL_isPlayed_29 : decode cL_isPlayed 29 = .ok (.aload 8, 2) := by decide +kernel
theorem dL_isPlayed_31 : decode cL_isPlayed 31 = .ok (.iload 10, 2) := by decide +kernel
theorem dL_isPlayed_33 : decode cL_isPlayed 33 = .ok (.invokestatic 129, 3) := by decide +kernel
theorem dL_isPlayed_36 : decode cL_isPlayed 36 = .ok (.goto 4, 3) := by decide +kernel
theorem dL_isPlayed_39 : decode cL_isPlayed 39 = .ok (.iconst 0, 1) := by decide +kernel
theorem dL_isPlayed_40 : decode cL_isPlayed 40 = .ok (.istore 14, 2) := by decide +kernel
theorem dL_isPlayed_42 : decode cL_isPlayed 42 = .ok (.iload 13, 2) := by decide +kernel
theorem dL_isPlayed_44 : decode cL_isPlayed 44 = .ok (.ifCond .eq 15, 3) := by decide +kernel
theorem dL_isPlayed_47 : decode cL_isPlayed 47 = .ok (.aload 5, 2) := by decide +kernel
theorem dL_isPlayed_49 : decode cL_isPlayed 49 = .ok (.aload 7, 2) := by decide +kernel
theorem dL_isPlayed_51 : decode cL_isPlayed 51 = .ok (.iload 10, 2) := by decide +kernel
theorem dL_isPlayed_53 : decode cL_isPlayed 53 = .ok (.invokestatic 136, 3) := by decide +kernel
theorem dL_isPlayed_56 : decode cL_isPlayed 56 = .ok (.goto 4, 3) := by decide +kernel
theorem dL_isPlayed_59 : decode cL_isPlayed 59 = .ok (.iconst 0, 1) := by decide +kernel
theorem dL_isPlayed_60 : decode cL_isPlayed 60 = .ok (.istore 15, 2) := by decide +kernel
theorem dL_isPlayed_62 : decode cL_isPlayed 62 = .ok (.iload 13, 2) := by decide +kernel
theorem dL_isPlayed_64 : decode cL_isPlayed 64 = .ok (.ifCond .eq 37, 3) := by decide +kernel
theorem dL_isPlayed_67 : decode cL_isPlayed 67 = .ok (.aload 5, 2) := by decide +kernel
theorem dL_isPlayed_69 : decode cL_isPlayed 69 = .ok (.bipush 32, 2) := by decide +kernel
theorem dL_isPlayed_71 : decode cL_isPlayed 71 = .ok (.iload 10, 2) := by decide +kernel
theorem dL_isPlayed_73 : decode cL_isPlayed 73 = .ok (.iadd, 1) := by decide +kernel
theorem dL_isPlayed_74 : decode cL_isPlayed 74 = .ok (.iaload, 1) := by decide +kernel
theorem dL_isPlayed_75 : decode cL_isPlayed 75 = .ok (.ifCond .ne 26, 3) := by decide +kernel
theorem dL_isPlayed_78 : decode cL_isPlayed 78 = .ok (.aload_n 1, 1) := by decide +kernel
theorem dL_isPlayed_79 : decode cL_isPlayed 79 = .ok (.iload 14, 2) := by decide +kernel
theorem dL_isPlayed_81 : decode cL_isPlayed 81 = .ok (.laload, 1) := by decide +kernel
theorem dL_isPlayed_82 : decode cL_isPlayed 82 = .ok (.aload_n 2, 1) := by decide +kernel
theorem dL_isPlayed_83 : decode cL_isPlayed 83 = .ok (.iload 14, 2) := by decide +kernel
theorem dL_isPlayed_85 : decode cL_isPlayed 85 = .ok (.laload, 1) := by decide +kernel
theorem dL_isPlayed_86 : decode cL_isPlayed 86 = .ok (.lor, 1) := by decide +kernel
theorem dL_isPlayed_87 : decode cL_isPlayed 87 = .ok (.iload 11, 2) := by decide +kernel
theorem dL_isPlayed_89 : decode cL_isPlayed 89 = .ok (.lshr, 1) := by decide +kernel
theorem dL_isPlayed_90 : decode cL_isPlayed 90 = .ok (.lconst 1, 1) := by decide +kernel
theorem dL_isPlayed_91 : decode cL_isPlayed 91 = .ok (.land, 1) := by decide +kernel
theorem dL_isPlayed_92 : decode cL_isPlayed 92 = .ok (.lconst 0, 1) := by decide +kernel
theorem dL_isPlayed_93 : decode cL_isPlayed 93 = .ok (.lcmp, 1) := by decide +kernel
theorem dL_isPlayed_94 : decode cL_isPlayed 94 = .ok (.ifCond .ne 7, 3) := by decide +kernel
theorem dL_isPlayed_97 : decode cL_isPlayed 97 = .ok (.iconst 1, 1) := by decide +kernel
theorem dL_isPlayed_98 : decode cL_isPlayed 98 = .ok (.goto 4, 3) := by decide +kernel
theorem dL_isPlayed_101 : decode cL_isPlayed 101 = .ok (.iconst 0, 1) := by decide +kernel
theorem dL_isPlayed_102 : decode cL_isPlayed 102 = .ok (.istore 16, 2) := by decide +kernel
theorem dL_isPlayed_104 : decode cL_isPlayed 104 = .ok (.iload 16, 2) := by decide +kernel
theorem dL_isPlayed_106 : decode cL_isPlayed 106 = .ok (.ifCond .eq 23, 3) := by decide +kernel
theorem dL_isPlayed_109 : decode cL_isPlayed 109 = .ok (.aload_n 1, 1) := by decide +kernel
theorem dL_isPlayed_110 : decode cL_isPlayed 110 = .ok (.iload 14, 2) := by decide +kernel
theorem dL_isPlayed_112 : decode cL_isPlayed 112 = .ok (.laload, 1) := by decide +kernel
theorem dL_isPlayed_113 : decode cL_isPlayed 113 = .ok (.aload_n 2, 1) := by decide +kernel
theorem dL_isPlayed_114 : decode cL_isPlayed 114 = .ok (.iload 14, 2) := by decide +kernel
theorem dL_isPlayed_116 : decode cL_isPlayed 116 = .ok (.laload, 1) := by decide +kernel
theorem dL_isPlayed_117 : decode cL_isPlayed 117 = .ok (.iload 15, 2) := by decide +kernel
theorem dL_isPlayed_119 : decode cL_isPlayed 119 = .ok (.iload 11, 2) := by decide +kernel
theorem dL_isPlayed_121 : decode cL_isPlayed 121 = .ok (.aload 9, 2) := by decide +kernel
theorem dL_isPlayed_123 : decode cL_isPlayed 123 = .ok (.invokestatic 139, 3) := by decide +kernel
theorem dL_isPlayed_126 : decode cL_isPlayed 126 = .ok (.goto 4, 3) := by decide +kernel
theorem dL_isPlayed_129 : decode cL_isPlayed 129 = .ok (.iconst (-1), 1) := by decide +kernel
theorem dL_isPlayed_130 : decode cL_isPlayed 130 = .ok (.istore 17, 2) := by decide +kernel
theorem dL_isPlayed_132 : decode cL_isPlayed 132 = .ok (.iload 16, 2) := by decide +kernel
theorem dL_isPlayed_134 : decode cL_isPlayed 134 = .ok (.ifCond .eq 12, 3) := by decide +kernel
theorem dL_isPlayed_137 : decode cL_isPlayed 137 = .ok (.iload 17, 2) := by decide +kernel
theorem dL_isPlayed_139 : decode cL_isPlayed 139 = .ok (.ifCond .lt 7, 3) := by decide +kernel
theorem dL_isPlayed_142 : decode cL_isPlayed 142 = .ok (.iconst 1, 1) := by decide +kernel
theorem dL_isPlayed_143 : decode cL_isPlayed 143 = .ok (.goto 4, 3) := by decide +kernel
theorem dL_isPlayed_146 : decode cL_isPlayed 146 = .ok (.iconst 0, 1) := by decide +kernel
theorem dL_isPlayed_147 : decode cL_isPlayed 147 = .ok (.istore 16, 2) := by decide +kernel
theorem dL_isPlayed_149 : decode cL_isPlayed 149 = .ok (.iconst 0, 1) := by decide +kernel
theorem dL_isPlayed_150 : decode cL_isPlayed 150 = .ok (.istore 18, 2) := by decide +kernel
theorem dL_isPlayed_152 : decode cL_isPlayed 152 = .ok (.iload 18, 2) := by decide +kernel
theorem dL_isPlayed_154 : decode cL_isPlayed 154 = .ok (.aload 8, 2) := by decide +kernel
theorem dL_isPlayed_156 : decode cL_isPlayed 156 = .ok (.iconst 2, 1) := by decide +kernel
theorem dL_isPlayed_157 : decode cL_isPlayed 157 = .ok (.iaload, 1) := by decide +kernel
theorem dL_isPlayed_158 : decode cL_isPlayed 158 = .ok (.if_icmp .ge 54, 3) := by decide +kernel
theorem dL_isPlayed_161 : decode cL_isPlayed 161 = .ok (.iload 16, 2) := by decide +kernel
theorem dL_isPlayed_163 : decode cL_isPlayed 163 = .ok (.ifCond .eq 49, 3) := by decide +kernel
theorem dL_isPlayed_166 : decode cL_isPlayed 166 = .ok (.aload_n 3, 1) := by decide +kernel
theorem dL_isPlayed_167 : decode cL_isPlayed 167 = .ok (.iload 18, 2) := by decide +kernel
theorem dL_isPlayed_169 : decode cL_isPlayed 169 = .ok (.iaload, 1) := by decide +kernel
theorem dL_isPlayed_170 : decode cL_isPlayed 170 = .ok (.iload 10, 2) := by decide +kernel
theorem dL_isPlayed_172 : decode cL_isPlayed 172 = .ok (.if_icmp .ne 27, 3) := by decide +kernel
theorem dL_isPlayed_175 : decode cL_isPlayed 175 = .ok (.aload_n 1, 1) := by decide +kernel
theorem dL_isPlayed_176 : decode cL_isPlayed 176 = .ok (.iload 18, 2) := by decide +kernel
theorem dL_isPlayed_178 : decode cL_isPlayed 178 = .ok (.laload, 1) := by decide +kernel
theorem dL_isPlayed_179 : decode cL_isPlayed 179 = .ok (.aload 9, 2) := by decide +kernel
theorem dL_isPlayed_181 : decode cL_isPlayed 181 = .ok (.iconst 0, 1) := by decide +kernel
theorem dL_isPlayed_182 : decode cL_isPlayed 182 = .ok (.laload, 1) := by decide +kernel
theorem dL_isPlayed_183 : decode cL_isPlayed 183 = .ok (.lcmp, 1) := by decide +kernel
theorem dL_isPlayed_184 : decode cL_isPlayed 184 = .ok (.ifCond .ne 15, 3) := by decide +kernel
theorem dL_isPlayed_187 : decode cL_isPlayed 187 = .ok (.aload_n 2, 1) := by decide +kernel
theorem dL_isPlayed_188 : decode cL_isPlayed 188 = .ok (.iload 18, 2) := by decide +kernel
theorem dL_isPlayed_190 : decode cL_isPlayed 190 = .ok (.laload, 1) := by decide +kernel
theorem dL_isPlayed_191 : decode cL_isPlayed 191 = .ok (.aload 9, 2) := by decide +kernel
theorem dL_isPlayed_193 : decode cL_isPlayed 193 = .ok (.iconst 1, 1) := by decide +kernel
theorem dL_isPlayed_194 : decode cL_isPlayed 194 = .ok (.laload, 1) := by decide +kernel
theorem dL_isPlayed_195 : decode cL_isPlayed 195 = .ok (.lcmp, 1) := by decide +kernel
theorem dL_isPlayed_196 : decode cL_isPlayed 196 = .ok (.ifCond .eq 7, 3) := by decide +kernel
theorem dL_isPlayed_199 : decode cL_isPlayed 199 = .ok (.iconst 1, 1) := by decide +kernel
theorem dL_isPlayed_200 : decode cL_isPlayed 200 = .ok (.goto 4, 3) := by decide +kernel
theorem dL_isPlayed_203 : decode cL_isPlayed 203 = .ok (.iconst 0, 1) := by decide +kernel
theorem dL_isPlayed_204 : decode cL_isPlayed 204 = .ok (.istore 16, 2) := by decide +kernel
theorem dL_isPlayed_206 : decode cL_isPlayed 206 = .ok (.iinc 18 1, 3) := by decide +kernel
theorem dL_isPlayed_209 : decode cL_isPlayed 209 = .ok (.goto (-57), 3) := by decide +kernel
theorem dL_isPlayed_212 : decode cL_isPlayed 212 = .ok (.iload 13, 2) := by decide +kernel
theorem dL_isPlayed_214 : decode cL_isPlayed 214 = .ok (.ifCond .ne 9, 3) := by decide +kernel
theorem dL_isPlayed_217 : decode cL_isPlayed 217 = .ok (.sipush (-300), 3) := by decide +kernel
theorem dL_isPlayed_220 : decode cL_isPlayed 220 = .ok (.goto 29, 3) := by decide +kernel
theorem dL_isPlayed_223 : decode cL_isPlayed 223 = .ok (.iload 12, 2) := by decide +kernel
theorem dL_isPlayed_225 : decode cL_isPlayed 225 = .ok (.sipush 1000, 3) := by decide +kernel
theorem dL_isPlayed_228 : decode cL_isPlayed 228 = .ok (.if_icmp .le 9, 3) := by decide +kernel
theorem dL_isPlayed_231 : decode cL_isPlayed 231 = .ok (.sipush (-200), 3) := by decide +kernel
theorem dL_isPlayed_234 : decode cL_isPlayed 234 = .ok (.goto 15, 3) := by decide +kernel
theorem dL_isPlayed_237 : decode cL_isPlayed 237 = .ok (.iload 16, 2) := by decide +kernel
theorem dL_isPlayed_239 : decode cL_isPlayed 239 = .ok (.ifCond .eq 8, 3) := by decide +kernel
theorem dL_isPlayed_242 : decode cL_isPlayed 242 = .ok (.iload 17, 2) := by decide +kernel
theorem dL_isPlayed_244 : decode cL_isPlayed 244 = .ok (.goto 5, 3) := by decide +kernel
theorem dL_isPlayed_247 : decode cL_isPlayed 247 = .ok (.bipush (-100), 2) := by decide +kernel
theorem dL_isPlayed_249 : decode cL_isPlayed 249 = .ok (.istore 18, 2) := by decide +kernel
theorem dL_isPlayed_251 : decode cL_isPlayed 251 = .ok (.iload 18, 2) := by decide +kernel
theorem dL_isPlayed_253 : decode cL_isPlayed 253 = .ok (.ifCond .lt 40, 3) := by decide +kernel
theorem dL_isPlayed_256 : decode cL_isPlayed 256 = .ok (.aload 6, 2) := by decide +kernel
theorem dL_isPlayed_258 : decode cL_isPlayed 258 = .ok (.iload 10, 2) := by decide +kernel
theorem dL_isPlayed_260 : decode cL_isPlayed 260 = .ok (.iload 15, 2) := by decide +kernel
theorem dL_isPlayed_262 : decode cL_isPlayed 262 = .ok (.iload 12, 2) := by decide +kernel
theorem dL_isPlayed_264 : decode cL_isPlayed 264 = .ok (.invokestatic 143, 3) := by decide +kernel
theorem dL_isPlayed_267 : decode cL_isPlayed 267 = .ok (.ifCond .eq 26, 3) := by decide +kernel
theorem dL_isPlayed_270 : decode cL_isPlayed 270 = .ok (.aload 4, 2) := by decide +kernel
theorem dL_isPlayed_272 : decode cL_isPlayed 272 = .ok (.aload 5, 2) := by decide +kernel
theorem dL_isPlayed_274 : decode cL_isPlayed 274 = .ok (.aload 7, 2) := by decide +kernel
theorem dL_isPlayed_276 : decode cL_isPlayed 276 = .ok (.aload 8, 2) := by decide +kernel
theorem dL_isPlayed_278 : decode cL_isPlayed 278 = .ok (.iload 10, 2) := by decide +kernel
theorem dL_isPlayed_280 : decode cL_isPlayed 280 = .ok (.iconst 1, 1) := by decide +kernel
theorem dL_isPlayed_281 : decode cL_isPlayed 281 = .ok (.iload 15, 2) := by decide +kernel
theorem dL_isPlayed_283 : decode cL_isPlayed 283 = .ok (.isub, 1) := by decide +kernel
theorem dL_isPlayed_284 : decode cL_isPlayed 284 = .ok (.invokestatic 147, 3) := by decide +kernel
theorem dL_isPlayed_287 : decode cL_isPlayed 287 = .ok (.iconst (-1), 1) := by decide +kernel
theorem dL_isPlayed_288 : decode cL_isPlayed 288 = .ok (.istore 18, 2) := by decide +kernel
theorem dL_isPlayed_290 : decode cL_isPlayed 290 = .ok (.goto 62, 3) := by decide +kernel
theorem dL_isPlayed_293 : decode cL_isPlayed 293 = .ok (.iload 18, 2) := by decide +kernel
theorem dL_isPlayed_295 : decode cL_isPlayed 295 = .ok (.ifCond .lt 57, 3) := by decide +kernel
theorem dL_isPlayed_298 : decode cL_isPlayed 298 = .ok (.aload_n 1, 1) := by decide +kernel
theorem dL_isPlayed_299 : decode cL_isPlayed 299 = .ok (.aload 8, 2) := by decide +kernel
theorem dL_isPlayed_301 : decode cL_isPlayed 301 = .ok (.iconst 2, 1) := by decide +kernel
theorem dL_isPlayed_302 : decode cL_isPlayed 302 = .ok (.iaload, 1) := by decide +kernel
theorem dL_isPlayed_303 : decode cL_isPlayed 303 = .ok (.aload 9, 2) := by decide +kernel
theorem dL_isPlayed_305 : decode cL_isPlayed 305 = .ok (.iconst 0, 1) := by decide +kernel
theorem dL_isPlayed_306 : decode cL_isPlayed 306 = .ok (.laload, 1) := by decide +kernel
theorem dL_isPlayed_307 : decode cL_isPlayed 307 = .ok (.lastore, 1) := by decide +kernel
theorem dL_isPlayed_308 : decode cL_isPlayed 308 = .ok (.aload_n 2, 1) := by decide +kernel
theorem dL_isPlayed_309 : decode cL_isPlayed 309 = .ok (.aload 8, 2) := by decide +kernel
theorem dL_isPlayed_311 : decode cL_isPlayed 311 = .ok (.iconst 2, 1) := by decide +kernel
theorem dL_isPlayed_312 : decode cL_isPlayed 312 = .ok (.iaload, 1) := by decide +kernel
theorem dL_isPlayed_313 : decode cL_isPlayed 313 = .ok (.aload 9, 2) := by decide +kernel
theorem dL_isPlayed_315 : decode cL_isPlayed 315 = .ok (.iconst 1, 1) := by decide +kernel
theorem dL_isPlayed_316 : decode cL_isPlayed 316 = .ok (.laload, 1) := by decide +kernel
theorem dL_isPlayed_317 : decode cL_isPlayed 317 = .ok (.lastore, 1) := by decide +kernel
theorem dL_isPlayed_318 : decode cL_isPlayed 318 = .ok (.aload_n 3, 1) := by decide +kernel
theorem dL_isPlayed_319 : decode cL_isPlayed 319 = .ok (.aload 8, 2) := by decide +kernel
theorem dL_isPlayed_321 : decode cL_isPlayed 321 = .ok (.iconst 2, 1) := by decide +kernel
theorem dL_isPlayed_322 : decode cL_isPlayed 322 = .ok (.iaload, 1) := by decide +kernel
theorem dL_isPlayed_323 : decode cL_isPlayed 323 = .ok (.iload 10, 2) := by decide +kernel
theorem dL_isPlayed_325 : decode cL_isPlayed 325 = .ok (.iastore, 1) := by decide +kernel
theorem dL_isPlayed_326 : decode cL_isPlayed 326 = .ok (.aload 8, 2) := by decide +kernel
theorem dL_isPlayed_328 : decode cL_isPlayed 328 = .ok (.iconst 2, 1) := by decide +kernel
theorem dL_isPlayed_329 : decode cL_isPlayed 329 = .ok (.dup2, 1) := by decide +kernel
theorem dL_isPlayed_330 : decode cL_isPlayed 330 = .ok (.iaload, 1) := by decide +kernel
theorem dL_isPlayed_331 : decode cL_isPlayed 331 = .ok (.iconst 1, 1) := by decide +kernel
theorem dL_isPlayed_332 : decode cL_isPlayed 332 = .ok (.iadd, 1) := by decide +kernel
theorem dL_isPlayed_333 : decode cL_isPlayed 333 = .ok (.iastore, 1) := by decide +kernel
theorem dL_isPlayed_334 : decode cL_isPlayed 334 = .ok (.aload 7, 2) := by decide +kernel
theorem dL_isPlayed_336 : decode cL_isPlayed 336 = .ok (.iload 10, 2) := by decide +kernel
theorem dL_isPlayed_338 : decode cL_isPlayed 338 = .ok (.dup2, 1) := by decide +kernel
theorem dL_isPlayed_339 : decode cL_isPlayed 339 = .ok (.iaload, 1) := by decide +kernel
theorem dL_isPlayed_340 : decode cL_isPlayed 340 = .ok (.iconst 1, 1) := by decide +kernel
theorem dL_isPlayed_341 : decode cL_isPlayed 341 = .ok (.iadd, 1) := by decide +kernel
theorem dL_isPlayed_342 : decode cL_isPlayed 342 = .ok (.iastore, 1) := by decide +kernel
theorem dL_isPlayed_343 : decode cL_isPlayed 343 = .ok (.aload 7, 2) := by decide +kernel
theorem dL_isPlayed_345 : decode cL_isPlayed 345 = .ok (.bipush 16, 2) := by decide +kernel
theorem dL_isPlayed_347 : decode cL_isPlayed 347 = .ok (.iload 10, 2) := by decide +kernel
theorem dL_isPlayed_349 : decode cL_isPlayed 349 = .ok (.iadd, 1) := by decide +kernel
theorem dL_isPlayed_350 : decode cL_isPlayed 350 = .ok (.iconst 0, 1) := by decide +kernel
theorem dL_isPlayed_351 : decode cL_isPlayed 351 = .ok (.iastore, 1) := by decide +kernel
theorem dL_isPlayed_352 : decode cL_isPlayed 352 = .ok (.aload_n 0, 1) := by decide +kernel
theorem dL_isPlayed_353 : decode cL_isPlayed 353 = .ok (.iconst 2, 1) := by decide +kernel
theorem dL_isPlayed_354 : decode cL_isPlayed 354 = .ok (.iload 10, 2) := by decide +kernel
theorem dL_isPlayed_356 : decode cL_isPlayed 356 = .ok (.iload 11, 2) := by decide +kernel
theorem dL_isPlayed_358 : decode cL_isPlayed 358 = .ok (.iload 12, 2) := by decide +kernel
theorem dL_isPlayed_360 : decode cL_isPlayed 360 = .ok (.iconst 0, 1) := by decide +kernel
theorem dL_isPlayed_361 : decode cL_isPlayed 361 = .ok (.iconst 0, 1) := by decide +kernel
theorem dL_isPlayed_362 : decode cL_isPlayed 362 = .ok (.invokestatic 151, 3) := by decide +kernel
theorem dL_isPlayed_365 : decode cL_isPlayed 365 = .ok (.iload 18, 2) := by decide +kernel
theorem dL_isPlayed_367 : decode cL_isPlayed 367 = .ok (.if_icmp .ne 26, 3) := by decide +kernel
theorem dL_isPlayed_370 : decode cL_isPlayed 370 = .ok (.iload 13, 2) := by decide +kernel
theorem dL_isPlayed_372 : decode cL_isPlayed 372 = .ok (.ifCond .eq 17, 3) := by decide +kernel
theorem dL_isPlayed_375 : decode cL_isPlayed 375 = .ok (.aload_n 0, 1) := by decide +kernel
theorem dL_isPlayed_376 : decode cL_isPlayed 376 = .ok (.aload_n 1, 1) := by decide +kernel
theorem dL_isPlayed_377 : decode cL_isPlayed 377 = .ok (.aload_n 2, 1) := by decide +kernel
theorem dL_isPlayed_378 : decode cL_isPlayed 378 = .ok (.aload_n 3, 1) := by decide +kernel
theorem dL_isPlayed_379 : decode cL_isPlayed 379 = .ok (.aload 8, 2) := by decide +kernel
theorem dL_isPlayed_381 : decode cL_isPlayed 381 = .ok (.iload 10, 2) := by decide +kernel
theorem dL_isPlayed_383 : decode cL_isPlayed 383 = .ok (.invokestatic 155, 3) := by decide +kernel
theorem dL_isPlayed_386 : decode cL_isPlayed 386 = .ok (.ifCond .eq 7, 3) := by decide +kernel
theorem dL_isPlayed_389 : decode cL_isPlayed 389 = .ok (.iconst 1, 1) := by decide +kernel
theorem dL_isPlayed_390 : decode cL_isPlayed 390 = .ok (.goto 4, 3) := by decide +kernel
theorem dL_isPlayed_393 : decode cL_isPlayed 393 = .ok (.iconst 0, 1) := by decide +kernel
theorem dL_isPlayed_394 : decode cL_isPlayed 394 = .ok (.ireturn, 1) := by decide +kernel
theorem dL_isPassed_0 : decode cL_isPassed 0 = .ok (.iload 9, 2) := by decide +kernel
theorem dL_isPassed_2 : decode cL_isPassed 2 = .ok (.aload 8, 2) := by decide +kernel
theorem dL_isPassed_4 : decode cL_isPassed 4 = .ok (.iconst 1, 1) := by decide +kernel
theorem dL_isPassed_5 : decode cL_isPassed 5 = .ok (.iaload, 1) := by decide +kernel
theorem dL_isPassed_6 : decode cL_isPassed 6 = .ok (.if_icmp .eq 22, 3) := by decide +kernel
theorem dL_isPassed_9 : decode cL_isPassed 9 = .ok (.iload 10, 2) := by decide +kernel
theorem dL_isPassed_11 : decode cL_isPassed 11 = .ok (.sipush 1000, 3) := by decide +kernel
theorem dL_isPassed_14 : decode cL_isPassed 14 = .ok (.if_icmp .gt 14, 3) := by decide +kernel
theorem dL_isPassed_17 : decode cL_isPassed 17 = .ok (.aload 5, 2) := by decide +kernel
theorem dL_isPassed_19 : decode cL_isPassed 19 = .ok (.bipush 32, 2) := by decide +kernel
theorem dL_isPassed_21 : decode cL_isPassed 21 = .ok (.iload 9, 2) := by decide +kernel
theorem dL_isPassed_23 : decode cL_isPassed 23 = .ok (.iadd, 1) := by decide +kernel
theorem dL_isPassed_24 : decode cL_isPassed 24 = .ok (.iaload, 1) := by decide +kernel
theorem dL_isPassed_25 : decode cL_isPassed 25 = .ok (.ifCond .le 55, 3) := by decide +kernel
theorem dL_isPassed_28 : decode cL_isPassed 28 = .ok (.aload_n 0, 1) := by decide +kernel
theorem dL_isPassed_29 : decode cL_isPassed 29 = .ok (.iconst 3, 1) := by decide +kernel
theorem dL_isPassed_30 : decode cL_isPassed 30 = .ok (.iload 9, 2) := by decide +kernel
theorem dL_isPassed_32 : decode cL_isPassed 32 = .ok (.iload 10, 2) := by decide +kernel
theorem dL_isPassed_34 : decode cL_isPassed 34 = .ok (.iconst 0, 1) := by decide +kernel
theorem dL_isPassed_35 : decode cL_isPassed 35 = .ok (.iconst 0, 1) := by decide +kernel
theorem dL_isPassed_36 : decode cL_isPassed 36 = .ok (.iconst 0, 1) := by decide +kernel
theorem dL_isPassed_37 : decode cL_isPassed 37 = .ok (.invokestatic 151, 3) := by decide +kernel
theorem dL_isPassed_40 : decode cL_isPassed 40 = .ok (.iload 9, 2) := by decide +kernel
theorem dL_isPassed_42 : decode cL_isPassed 42 = .ok (.aload 8, 2) := by decide +kernel
theorem dL_isPassed_44 : decode cL_isPassed 44 = .ok (.iconst 1, 1) := by decide +kernel
theorem dL_isPassed_45 : decode cL_isPassed 45 = .ok (.iaload, 1) := by decide +kernel
theorem dL_isPassed_46 : decode cL_isPassed 46 = .ok (.if_icmp .ne 9, 3) := by decide +kernel
theorem dL_isPassed_49 : decode cL_isPassed 49 = .ok (.sipush (-300), 3) := by decide +kernel
theorem dL_isPassed_52 : decode cL_isPassed 52 = .ok (.goto 19, 3) := by decide +kernel
theorem dL_isPassed_55 : decode cL_isPassed 55 = .ok (.iload 10, 2) := by decide +kernel
theorem dL_isPassed_57 : decode cL_isPassed 57 = .ok (.sipush 1000, 3) := by decide +kernel
theorem dL_isPassed_60 : decode cL_isPassed 60 = .ok (.if_icmp .le 9, 3) := by decide +kernel
theorem dL_isPassed_63 : decode cL_isPassed 63 = .ok (.sipush (-200), 3) := by decide +kernel
theorem dL_isPassed_66 : decode cL_isPassed 66 = .ok (.goto 5, 3) := by decide +kernel
theorem dL_isPassed_69 : decode cL_isPassed 69 = .ok (.bipush (-100), 2) := by decide +kernel
theorem dL_isPassed_71 : decode cL_isPassed 71 = .ok (.if_icmp .ne 7, 3) := by decide +kernel
theorem dL_isPassed_74 : decode cL_isPassed 74 = .ok (.iconst 1, 1) := by decide +kernel
theorem dL_isPassed_75 : decode cL_isPassed 75 = .ok (.goto 4, 3) := by decide +kernel
theorem dL_isPassed_78 : decode cL_isPassed 78 = .ok (.iconst 0, 1) := by decide +kernel
theorem dL_isPassed_79 : decode cL_isPassed 79 = .ok (.ireturn, 1) := by decide +kernel
theorem dL_isPassed_80 : decode cL_isPassed 80 = .ok (.aload 5, 2) := by decide +kernel
theorem dL_isPassed_82 : decode cL_isPassed 82 = .ok (.aload 7, 2) := by decide +kernel
theorem dL_isPassed_84 : decode cL_isPassed 84 = .ok (.iload 9, 2) := by decide +kernel
theorem dL_isPassed_86 : decode cL_isPassed 86 = .ok (.invokestatic 136, 3) := by decide +kernel
theorem dL_isPassed_89 : decode cL_isPassed 89 = .ok (.istore 11, 2) := by decide +kernel
theorem dL_isPassed_91 : decode cL_isPassed 91 = .ok (.aload_n 3, 1) := by decide +kernel
theorem dL_isPassed_92 : decode cL_isPassed 92 = .ok (.aload 8, 2) := by decide +kernel
theorem dL_isPassed_94 : decode cL_isPassed 94 = .ok (.iload 9, 2) := by decide +kernel
theorem dL_isPassed_96 : decode cL_isPassed 96 = .ok (.invokestatic 129, 3) := by decide +kernel
theorem dL_isPassed_99 : decode cL_isPassed 99 = .ok (.istore 12, 2) := by decide +kernel
theorem dL_isPassed_101 : decode cL_isPassed 101 = .ok (.aload 6, 2) := by decide +kernel
theorem dL_isPassed_103 : decode cL_isPassed 103 = .ok (.iload 9, 2) := by decide +kernel
theorem dL_isPassed_105 : decode cL_isPassed 105 = .ok (.iload 11, 2) := by decide +kernel
theorem dL_isPassed_107 : decode cL_isPassed 107 = .ok (.iload 10, 2) := by decide +kernel
theorem dL_isPassed_109 : decode cL_isPassed 109 = .ok (.invokestatic 143, 3) := by decide +kernel
theorem dL_isPassed_112 : decode cL_isPassed 112 = .ok (.ifCond .eq 23, 3) := by decide +kernel
theorem dL_isPassed_115 : decode cL_isPassed 115 = .ok (.aload 4, 2) := by decide +kernel
theorem dL_isPassed_117 : decode cL_isPassed 117 = .ok (.aload 5, 2) := by decide +kernel
theorem dL_isPassed_119 : decode cL_isPassed 119 = .ok (.aload 7, 2) := by decide +kernel
theorem dL_isPassed_121 : decode cL_isPassed 121 = .ok (.aload 8, 2) := by decide +kernel
theorem dL_isPassed_123 : decode cL_isPassed 123 = .ok (.iload 9, 2) := by decide +kernel
theorem dL_isPassed_125 : decode cL_isPassed 125 = .ok (.iconst 1, 1) := by decide +kernel
theorem dL_isPassed_126 : decode cL_isPassed 126 = .ok (.iload 11, 2) := by decide +kernel
theorem dL_isPassed_128 : decode cL_isPassed 128 = .ok (.isub, 1) := by decide +kernel
theorem dL_isPassed_129 : decode cL_isPassed 129 = .ok (.invokestatic 147, 3) := by decide +kernel
theorem dL_isPassed_132 : decode cL_isPassed 132 = .ok (.goto 79, 3) := by decide +kernel
theorem dL_isPassed_135 : decode cL_isPassed 135 = .ok (.aload 7, 2) := by decide +kernel
theorem dL_isPassed_137 : decode cL_isPassed 137 = .ok (.iload 9, 2) := by decide +kernel
theorem dL_isPassed_139 : decode cL_isPassed 139 = .ok (.dup2, 1) := by decide +kernel
theorem dL_isPassed_140 : decode cL_isPassed 140 = .ok (.iaload, 1) := by decide +kernel
theorem dL_isPassed_141 : decode cL_isPassed 141 = .ok (.iconst 1, 1) := by decide +kernel
theorem dL_isPassed_142 : decode cL_isPassed 142 = .ok (.iadd, 1) := by decide +kernel
theorem dL_isPassed_143 : decode cL_isPassed 143 = .ok (.iastore, 1) := by decide +kernel
theorem dL_isPassed_144 : decode cL_isPassed 144 = .ok (.aload 7, 2) := by decide +kernel
theorem dL_isPassed_146 : decode cL_isPassed 146 = .ok (.bipush 16, 2) := by decide +kernel
theorem dL_isPassed_148 : decode cL_isPassed 148 = .ok (.iload 9, 2) := by decide +kernel
theorem dL_isPassed_150 : decode cL_isPassed 150 = .ok (.iadd, 1) := by decide +kernel
theorem dL_isPassed_151 : decode cL_isPassed 151 = .ok (.dup2, 1) := by decide +kernel
theorem dL_isPassed_152 : decode cL_isPassed 152 = .ok (.iaload, 1) := by decide +kernel
theorem dL_isPassed_153 : decode cL_isPassed 153 = .ok (.iconst 1, 1) := by decide +kernel
theorem dL_isPassed_154 : decode cL_isPassed 154 = .ok (.iadd, 1) := by decide +kernel
theorem dL_isPassed_155 : decode cL_isPassed 155 = .ok (.iastore, 1) := by decide +kernel
theorem dL_isPassed_156 : decode cL_isPassed 156 = .ok (.aload 7, 2) := by decide +kernel
theorem dL_isPassed_158 : decode cL_isPassed 158 = .ok (.bipush 16, 2) := by decide +kernel
theorem dL_isPassed_160 : decode cL_isPassed 160 = .ok (.iload 9, 2) := by decide +kernel
theorem dL_isPassed_162 : decode cL_isPassed 162 = .ok (.iadd, 1) := by decide +kernel
theorem dL_isPassed_163 : decode cL_isPassed 163 = .ok (.iaload, 1) := by decide +kernel
theorem dL_isPassed_164 : decode cL_isPassed 164 = .ok (.iconst 2, 1) := by decide +kernel
theorem dL_isPassed_165 : decode cL_isPassed 165 = .ok (.if_icmp .ne 46, 3) := by decide +kernel
theorem dL_isPassed_168 : decode cL_isPassed 168 = .ok (.aload 4, 2) := by decide +kernel
theorem dL_isPassed_170 : decode cL_isPassed 170 = .ok (.aload 5, 2) := by decide +kernel
theorem dL_isPassed_172 : decode cL_isPassed 172 = .ok (.aload 7, 2) := by decide +kernel
theorem dL_isPassed_174 : decode cL_isPassed 174 = .ok (.aload 8, 2) := by decide +kernel
theorem dL_isPassed_176 : decode cL_isPassed 176 = .ok (.iload 9, 2) := by decide +kernel
theorem dL_isPassed_178 : decode cL_isPassed 178 = .ok (.aload_n 1, 1) := by decide +kernel
theorem dL_isPassed_179 : decode cL_isPassed 179 = .ok (.iload 12, 2) := by decide +kernel
theorem dL_isPassed_181 : decode cL_isPassed 181 = .ok (.laload, 1) := by decide +kernel
theorem dL_isPassed_182 : decode cL_isPassed 182 = .ok (.aload_n 2, 1) := by decide +kernel
theorem dL_isPassed_183 : decode cL_isPassed 183 = .ok (.iload 12, 2) := by decide +kernel
theorem dL_isPassed_185 : decode cL_isPassed 185 = .ok (.laload, 1) := by decide +kernel
theorem dL_isPassed_186 : decode cL_isPassed 186 = .ok (.aload 5, 2) := by decide +kernel
theorem dL_isPassed_188 : decode cL_isPassed 188 = .ok (.bipush 16, 2) := by decide +kernel
theorem dL_isPassed_190 : decode cL_isPassed 190 = .ok (.iload 9, 2) := by decide +kernel
theorem dL_isPassed_192 : decode cL_isPassed 192 = .ok (.iadd, 1) := by decide +kernel
theorem dL_isPassed_193 : decode cL_isPassed 193 = .ok (.iaload, 1) := by decide +kernel
theorem dL_isPassed_194 : decode cL_isPassed 194 = .ok (.bipush 10, 2) := by decide +kernel
theorem dL_isPassed_196 : decode cL_isPassed 196 = .ok (.irem, 1) := by decide +kernel
theorem dL_isPassed_197 : decode cL_isPassed 197 = .ok (.invokestatic 133, 3) := by decide +kernel
theorem dL_isPassed_200 : decode cL_isPassed 200 = .ok (.ifCond .le 7, 3) := by decide +kernel
theorem dL_isPassed_203 : decode cL_isPassed 203 = .ok (.iconst 0, 1) := by decide +kernel
theorem dL_isPassed_204 : decode cL_isPassed 204 = .ok (.goto 4, 3) := by decide +kernel
theorem dL_isPassed_207 : decode cL_isPassed 207 = .ok (.iconst 1, 1) := by decide +kernel
theorem dL_isPassed_208 : decode cL_isPassed 208 = .ok (.invokestatic 147, 3) := by decide +kernel
theorem dL_isPassed_211 : decode cL_isPassed 211 = .ok (.aload_n 0, 1) := by decide +kernel
theorem dL_isPassed_212 : decode cL_isPassed 212 = .ok (.iconst 3, 1) := by decide +kernel
theorem dL_isPassed_213 : decode cL_isPassed 213 = .ok (.iload 9, 2) := by decide +kernel
theorem dL_isPassed_215 : decode cL_isPassed 215 = .ok (.iload 10, 2) := by decide +kernel
theorem dL_isPassed_217 : decode cL_isPassed 217 = .ok (.iconst 0, 1) := by decide +kernel
theorem dL_isPassed_218 : decode cL_isPassed 218 = .ok (.iconst 0, 1) := by decide +kernel
theorem dL_isPassed_219 : decode cL_isPassed 219 = .ok (.iconst 0, 1) := by decide +kernel
theorem dL_isPassed_220 : decode cL_isPassed 220 = .ok (.invokestatic 151, 3) := by decide +kernel
theorem dL_isPassed_223 : decode cL_isPassed 223 = .ok (.aload 5, 2) := by decide +kernel
theorem dL_isPassed_225 : decode cL_isPassed 225 = .ok (.bipush 32, 2) := by decide +kernel
theorem dL_isPassed_227 : decode cL_isPassed 227 = .ok (.iload 9, 2) := by decide +kernel
theorem dL_isPassed_229 : decode cL_isPassed 229 = .ok (.iadd, 1) := by decide +kernel
theorem dL_isPassed_230 : decode cL_isPassed 230 = .ok (.iaload, 1) := by decide +kernel
theorem dL_isPassed_231 : decode cL_isPassed 231 = .ok (.if_icmp .ne 7, 3) := by decide +kernel
theorem dL_isPassed_234 : decode cL_isPassed 234 = .ok (.iconst 1, 1) := by decide +kernel
theorem dL_isPassed_235 : decode cL_isPassed 235 = .ok (.goto 4, 3) := by decide +kernel
theorem dL_isPassed_238 : decode cL_isPassed 238 = .ok (.iconst 0, 1) := by decide +kernel
theorem dL_isPassed_239 : decode cL_isPassed 239 = .ok (.ireturn, 1) := by decide +kernel
theorem dL_isBegun_0 : decode cL_isBegun 0 = .ok (.iload 9, 2) := by decide +kernel
theorem dL_isBegun_2 : decode cL_isBegun 2 = .ok (.aload 8, 2) := by decide +kernel
theorem dL_isBegun_4 : decode cL_isBegun 4 = .ok (.iconst 0, 1) := by decide +kernel
theorem dL_isBegun_5 : decode cL_isBegun 5 = .ok (.iaload, 1) := by decide +kernel
theorem dL_isBegun_6 : decode cL_isBegun 6 = .ok (.if_icmp .ge 16, 3) := by decide +kernel
theorem dL_isBegun_9 : decode cL_isBegun 9 = .ok (.iload 10, 2) := by decide +kernel
theorem dL_isBegun_11 : decode cL_isBegun 11 = .ok (.aload 8, 2) := by decide +kernel
theorem dL_isBegun_13 : decode cL_isBegun 13 = .ok (.iconst 0, 1) := by decide +kernel
theorem dL_isBegun_14 : decode cL_isBegun 14 = .ok (.iaload, 1) := by decide +kernel
theorem dL_isBegun_15 : decode cL_isBegun 15 = .ok (.if_icmp .ge 7, 3) := by decide +kernel
theorem dL_isBegun_18 : decode cL_isBegun 18 = .ok (.iconst 1, 1) := by decide +kernel
theorem dL_isBegun_19 : decode cL_isBegun 19 = .ok (.goto 4, 3) := by decide +kernel
theorem dL_isBegun_22 : decode cL_isBegun 22 = .ok (.iconst 0, 1) := by decide +kernel
theorem dL_isBegun_23 : decode cL_isBegun 23 = .ok (.istore 14, 2) := by decide +kernel
theorem dL_isBegun_25 : decode cL_isBegun 25 = .ok (.iload 9, 2) := by decide +kernel
theorem dL_isBegun_27 : decode cL_isBegun 27 = .ok (.iload 10, 2) := by decide +kernel
theorem dL_isBegun_29 : decode cL_isBegun 29 = .ok (.if_icmp .eq 27, 3) := by decide +kernel
theorem dL_isBegun_32 : decode cL_isBegun 32 = .ok (.iload 11, 2) := by decide +kernel
theorem dL_isBegun_34 : decode cL_isBegun 34 = .ok (.sipush 3601, 3) := by decide +kernel
theorem dL_isBegun_37 : decode cL_isBegun 37 = .ok (.if_icmp .ge 19, 3) := by decide +kernel
theorem dL_isBegun_40 : decode cL_isBegun 40 = .ok (.iload 12, 2) := by decide +kernel
theorem dL_isBegun_42 : decode cL_isBegun 42 = .ok (.bipush 6, 2) := by decide +kernel
theorem dL_isBegun_44 : decode cL_isBegun 44 = .ok (.if_icmp .ge 12, 3) := by decide +kernel
theorem dL_isBegun_47 : decode cL_isBegun 47 = .ok (.iload 13, 2) := by decide +kernel
theorem dL_isBegun_49 : decode cL_isBegun 49 = .ok (.ifCond .le 7, 3) := by decide +kernel
theorem dL_isBegun_52 : decode cL_isBegun 52 = .ok (.iconst 1, 1) := by decide +kernel
theorem dL_isBegun_53 : decode cL_isBegun 53 = .ok (.goto 4, 3) := by decide +kernel
theorem dL_isBegun_56 : decode cL_isBegun 56 = .ok (.iconst 0, 1) := by decide +kernel
theorem dL_isBegun_57 : decode cL_isBegun 57 = .ok (.istore 15, 2) := by decide +kernel
theorem dL_isBegun_59 : decode cL_isBegun 59 = .ok (.iload 14, 2) := by decide +kernel
theorem dL_isBegun_61 : decode cL_isBegun 61 = .ok (.ifCond .eq 21, 3) := by decide +kernel
theorem dL_isBegun_64 : decode cL_isBegun 64 = .ok (.iload 15, 2) := by decide +kernel
theorem dL_isBegun_66 : decode cL_isBegun 66 = .ok (.ifCond .eq 16, 3) := by decide +kernel
theorem dL_isBegun_69 : decode cL_isBegun 69 = .ok (.aload 8, 2) := by decide +kernel
theorem dL_isBegun_71 : decode cL_isBegun 71 = .ok (.iconst 1, 1) := by decide +kernel
theorem dL_isBegun_72 : decode cL_isBegun 72 = .ok (.iaload, 1) := by decide +kernel
theorem dL_isBegun_73 : decode cL_isBegun 73 = .ok (.bipush 16, 2) := by decide +kernel
theorem dL_isBegun_75 : decode cL_isBegun 75 = .ok (.if_icmp .ge 7, 3) := by decide +kernel
theorem dL_isBegun_78 : decode cL_isBegun 78 = .ok (.iconst 1, 1) := by decide +kernel
theorem dL_isBegun_79 : decode cL_isBegun 79 = .ok (.goto 4, 3) := by decide +kernel
theorem dL_isBegun_82 : decode cL_isBegun 82 = .ok (.iconst 0, 1) := by decide +kernel
theorem dL_isBegun_83 : decode cL_isBegun 83 = .ok (.istore 16, 2) := by decide +kernel
theorem dL_isBegun_85 : decode cL_isBegun 85 = .ok (.iconst 0, 1) := by decide +kernel
theorem dL_isBegun_86 : decode cL_isBegun 86 = .ok (.istore 17, 2) := by decide +kernel
theorem dL_isBegun_88 : decode cL_isBegun 88 = .ok (.iload 17, 2) := by decide +kernel
theorem dL_isBegun_90 : decode cL_isBegun 90 = .ok (.aload 8, 2) := by decide +kernel
theorem dL_isBegun_92 : decode cL_isBegun 92 = .ok (.iconst 1, 1) := by decide +kernel
theorem dL_isBegun_93 : decode cL_isBegun 93 = .ok (.iaload, 1) := by decide +kernel
theorem dL_isBegun_94 : decode cL_isBegun 94 = .ok (.if_icmp .ge 80, 3) := by decide +kernel
theorem dL_isBegun_97 : decode cL_isBegun 97 = .ok (.iload 16, 2) := by decide +kernel
theorem dL_isBegun_99 : decode cL_isBegun 99 = .ok (.ifCond .eq 75, 3) := by decide +kernel
theorem dL_isBegun_102 : decode cL_isBegun 102 = .ok (.aload 5, 2) := by decide +kernel
theorem dL_isBegun_104 : decode cL_isBegun 104 = .ok (.iload 17, 2) := by decide +kernel
theorem dL_isBegun_106 : decode cL_isBegun 106 = .ok (.iaload, 1) := by decide +kernel
theorem dL_isBegun_107 : decode cL_isBegun 107 = .ok (.bipush 10, 2) := by decide +kernel
theorem dL_isBegun_109 : decode cL_isBegun 109 = .ok (.idiv, 1) := by decide +kernel
theorem dL_isBegun_110 : decode cL_isBegun 110 = .ok (.istore 18, 2) := by decide +kernel
theorem dL_isBegun_112 : decode cL_isBegun 112 = .ok (.aload 5, 2) := by decide +kernel
theorem dL_isBegun_114 : decode cL_isBegun 114 = .ok (.iload 17, 2) := by decide +kernel
theorem dL_isBegun_116 : decode cL_isBegun 116 = .ok (.iaload, 1) := by decide +kernel
theorem dL_isBegun_117 : decode cL_isBegun 117 = .ok (.bipush 10, 2) := by decide +kernel
theorem dL_isBegun_119 : decode cL_isBegun 119 = .ok (.irem, 1) := by decide +kernel
theorem dL_isBegun_120 : decode cL_isBegun 120 = .ok (.istore 19, 2) := by decide +kernel
theorem dL_isBegun_122 : decode cL_isBegun 122 = .ok (.aload 5, 2) := by decide +kernel
theorem dL_isBegun_124 : decode cL_isBegun 124 = .ok (.bipush 32, 2) := by decide +kernel
theorem dL_isBegun_126 : decode cL_isBegun 126 = .ok (.iload 17, 2) := by decide +kernel
theorem dL_isBegun_128 : decode cL_isBegun 128 = .ok (.iadd, 1) := by decide +kernel
theorem dL_isBegun_129 : decode cL_isBegun 129 = .ok (.iaload, 1) := by decide +kernel
theorem dL_isBegun_130 : decode cL_isBegun 130 = .ok (.ifCond .gt 31, 3) := by decide +kernel
theorem dL_isBegun_133 : decode cL_isBegun 133 = .ok (.iload 18, 2) := by decide +kernel
theorem dL_isBegun_135 : decode cL_isBegun 135 = .ok (.iload 9, 2) := by decide +kernel
theorem dL_isBegun_137 : decode cL_isBegun 137 = .ok (.if_icmp .eq 28, 3) := by decide +kernel
theorem dL_isBegun_140 : decode cL_isBegun 140 = .ok (.iload 19, 2) := by decide +kernel
theorem dL_isBegun_142 : decode cL_isBegun 142 = .ok (.iload 9, 2) := by decide +kernel
theorem dL_isBegun_144 : decode cL_isBegun 144 = .ok (.if_icmp .eq 21, 3) := by decide +kernel
theorem dL_isBegun_147 : decode cL_isBegun 147 = .ok (.iload 18, 2) := by decide +kernel
theorem dL_isBegun_149 : decode cL_isBegun 149 = .ok (.iload 10, 2) := by decide +kernel
theorem dL_isBegun_151 : decode cL_isBegun 151 = .ok (.if_icmp .eq 14, 3) := by decide +kernel
theorem dL_isBegun_154 : decode cL_isBegun 154 = .ok (.iload 19, 2) := by decide +kernel
theorem dL_isBegun_156 : decode cL_isBegun 156 = .ok (.iload 10, 2) := by decide +kernel
theorem dL_isBegun_158 : decode cL_isBegun 158 = .ok (.if_icmp .eq 7, 3) := by decide +kernel
theorem dL_isBegun_161 : decode cL_isBegun 161 = .ok (.iconst 1, 1) := by decide +kernel
theorem dL_isBegun_162 : decode cL_isBegun 162 = .ok (.goto 4, 3) := by decide +kernel
theorem dL_isBegun_165 : decode cL_isBegun 165 = .ok (.iconst 0, 1) := by decide +kernel
theorem dL_isBegun_166 : decode cL_isBegun 166 = .ok (.istore 16, 2) := by decide +kernel
theorem dL_isBegun_168 : decode cL_isBegun 168 = .ok (.iinc 17 1, 3) := by decide +kernel
theorem dL_isBegun_171 : decode cL_isBegun 171 = .ok (.goto (-83), 3) := by decide +kernel
theorem dL_isBegun_174 : decode cL_isBegun 174 = .ok (.iload 14, 2) := by decide +kernel
theorem dL_isBegun_176 : decode cL_isBegun 176 = .ok (.ifCond .ne 9, 3) := by decide +kernel
theorem dL_isBegun_179 : decode cL_isBegun 179 = .ok (.sipush (-300), 3) := by decide +kernel
theorem dL_isBegun_182 : decode cL_isBegun 182 = .ok (.goto 28, 3) := by decide +kernel
theorem dL_isBegun_185 : decode cL_isBegun 185 = .ok (.iload 15, 2) := by decide +kernel
theorem dL_isBegun_187 : decode cL_isBegun 187 = .ok (.ifCond .ne 9, 3) := by decide +kernel
theorem dL_isBegun_190 : decode cL_isBegun 190 = .ok (.sipush (-200), 3) := by decide +kernel
theorem dL_isBegun_193 : decode cL_isBegun 193 = .ok (.goto 17, 3) := by decide +kernel
theorem dL_isBegun_196 : decode cL_isBegun 196 = .ok (.iload 16, 2) := by decide +kernel
theorem dL_isBegun_198 : decode cL_isBegun 198 = .ok (.ifCond .eq 10, 3) := by decide +kernel
theorem dL_isBegun_201 : decode cL_isBegun 201 = .ok (.aload 8, 2) := by decide +kernel
theorem dL_isBegun_203 : decode cL_isBegun 203 = .ok (.iconst 1, 1) := by decide +kernel
theorem dL_isBegun_204 : decode cL_isBegun 204 = .ok (.iaload, 1) := by decide +kernel
theorem dL_isBegun_205 : decode cL_isBegun 205 = .ok (.goto 5, 3) := by decide +kernel
theorem dL_isBegun_208 : decode cL_isBegun 208 = .ok (.bipush (-100), 2) := by decide +kernel
theorem dL_isBegun_210 : decode cL_isBegun 210 = .ok (.istore 17, 2) := by decide +kernel
theorem dL_isBegun_212 : decode cL_isBegun 212 = .ok (.iload 16, 2) := by decide +kernel
theorem dL_isBegun_214 : decode cL_isBegun 214 = .ok (.ifCond .eq 187, 3) := by decide +kernel
theorem dL_isBegun_217 : decode cL_isBegun 217 = .ok (.aload 5, 2) := by decide +kernel
theorem dL_isBegun_219 : decode cL_isBegun 219 = .ok (.iload 17, 2) := by decide +kernel
theorem dL_isBegun_221 : decode cL_isBegun 221 = .ok (.bipush 10, 2) := by decide +kernel
theorem dL_isBegun_223 : decode cL_isBegun 223 = .ok (.iload 9, 2) := by decide +kernel
theorem dL_isBegun_225 : decode cL_isBegun 225 = .ok (.imul, 1) := by decide +kernel
theorem dL_isBegun_226 : decode cL_isBegun 226 = .ok (.iload 10, 2) := by decide +kernel
theorem dL_isBegun_228 : decode cL_isBegun 228 = .ok (.iadd, 1) := by decide +kernel
theorem dL_isBegun_229 : decode cL_isBegun 229 = .ok (.iastore, 1) := by decide +kernel
theorem dL_isBegun_230 : decode cL_isBegun 230 = .ok (.aload 5, 2) := by decide +kernel
theorem dL_isBegun_232 : decode cL_isBegun 232 = .ok (.bipush 16, 2) := by decide +kernel
theorem dL_isBegun_234 : decode cL_isBegun 234 = .ok (.iload 17, 2) := by decide +kernel
theorem dL_isBegun_236 : decode cL_isBegun 236 = .ok (.iadd, 1) := by decide +kernel
theorem dL_isBegun_237 : decode cL_isBegun 237 = .ok (.aload 4, 2) := by decide +kernel
theorem dL_isBegun_239 : decode cL_isBegun 239 = .ok (.iload 9, 2) := by decide +kernel
theorem dL_isBegun_241 : decode cL_isBegun 241 = .ok (.iload 10, 2) := by decide +kernel
theorem dL_isBegun_243 : decode cL_isBegun 243 = .ok (.invokestatic 118, 3) := by decide +kernel
theorem dL_isBegun_246 : decode cL_isBegun 246 = .ok (.iastore, 1) := by decide +kernel
theorem dL_isBegun_247 : decode cL_isBegun 247 = .ok (.aload 5, 2) := by decide +kernel
theorem dL_isBegun_249 : decode cL_isBegun 249 = .ok (.bipush 32, 2) := by decide +kernel
theorem dL_isBegun_251 : decode cL_isBegun 251 = .ok (.iload 17, 2) := by decide +kernel
theorem dL_isBegun_253 : decode cL_isBegun 253 = .ok (.iadd, 1) := by decide +kernel
theorem dL_isBegun_254 : decode cL_isBegun 254 = .ok (.iconst 0, 1) := by decide +kernel
theorem dL_isBegun_255 : decode cL_isBegun 255 = .ok (.iastore, 1) := by decide +kernel
theorem dL_isBegun_256 : decode cL_isBegun 256 = .ok (.aload 5, 2) := by decide +kernel
theorem dL_isBegun_258 : decode cL_isBegun 258 = .ok (.bipush 48, 2) := by decide +kernel
theorem dL_isBegun_260 : decode cL_isBegun 260 = .ok (.iload 17, 2) := by decide +kernel
theorem dL_isBegun_262 : decode cL_isBegun 262 = .ok (.iadd, 1) := by decide +kernel
theorem dL_isBegun_263 : decode cL_isBegun 263 = .ok (.iconst 2, 1) := by decide +kernel
theorem dL_isBegun_264 : decode cL_isBegun 264 = .ok (.aload 8, 2) := by decide +kernel
theorem dL_isBegun_266 : decode cL_isBegun 266 = .ok (.iconst 3, 1) := by decide +kernel
theorem dL_isBegun_267 : decode cL_isBegun 267 = .ok (.iaload, 1) := by decide +kernel
theorem dL_isBegun_268 : decode cL_isBegun 268 = .ok (.imul, 1) := by decide +kernel
theorem dL_isBegun_269 : decode cL_isBegun 269 = .ok (.iastore, 1) := by decide +kernel
theorem dL_isBegun_270 : decode cL_isBegun 270 = .ok (.aload 5, 2) := by decide +kernel
theorem dL_isBegun_272 : decode cL_isBegun 272 = .ok (.bipush 16, 2) := by decide +kernel
theorem dL_isBegun_274 : decode cL_isBegun 274 = .ok (.iload 17, 2) := by decide +kernel
theorem dL_isBegun_276 : decode cL_isBegun 276 = .ok (.iadd, 1) := by decide +kernel
theorem dL_isBegun_277 : decode cL_isBegun 277 = .ok (.iaload, 1) := by decide +kernel
theorem dL_isBegun_278 : decode cL_isBegun 278 = .ok (.bipush 10, 2) := by decide +kernel
theorem dL_isBegun_280 : decode cL_isBegun 280 = .ok (.irem, 1) := by decide +kernel
theorem dL_isBegun_281 : decode cL_isBegun 281 = .ok (.istore 18, 2) := by decide +kernel
theorem dL_isBegun_283 : decode cL_isBegun 283 = .ok (.aload_n 1, 1) := by decide +kernel
theorem dL_isBegun_284 : decode cL_isBegun 284 = .ok (.aload 8, 2) := by decide +kernel
theorem dL_isBegun_286 : decode cL_isBegun 286 = .ok (.iconst 2, 1) := by decide +kernel
theorem dL_isBegun_287 : decode cL_isBegun 287 = .ok (.iaload, 1) := by decide +kernel
theorem dL_isBegun_288 : decode cL_isBegun 288 = .ok (.iload 18, 2) := by decide +kernel
theorem dL_isBegun_290 : decode cL_isBegun 290 = .ok (.iconst 2, 1) := by decide +kernel
theorem dL_isBegun_291 : decode cL_isBegun 291 = .ok (.if_icmp .ge 7, 3) := by decide +kernel
theorem dL_isBegun_294 : decode cL_isBegun 294 = .ok (.lconst 0, 1) := by decide +kernel
theorem dL_isBegun_295 : decode cL_isBegun 295 = .ok (.goto 34, 3) := by decide +kernel
theorem dL_isBegun_298 : decode cL_isBegun 298 = .ok (.ldc2_w 159, 3) := by decide +kernel
theorem dL_isBegun_301 : decode cL_isBegun 301 = .ok (.iload 18, 2) := by decide +kernel
theorem dL_isBegun_303 : decode cL_isBegun 303 = .ok (.iconst 2, 1) := by decide +kernel
theorem dL_isBegun_304 : decode cL_isBegun 304 = .ok (.if_icmp .le 9, 3) := by decide +kernel
theorem dL_isBegun_307 : decode cL_isBegun 307 = .ok (.ldc2_w 161, 3) := by decide +kernel
theorem dL_isBegun_310 : decode cL_isBegun 310 = .ok (.goto 4, 3) := by decide +kernel
theorem dL_isBegun_313 : decode cL_isBegun 313 = .ok (.lconst 0, 1) := by decide +kernel
theorem dL_isBegun_314 : decode cL_isBegun 314 = .ok (.lor, 1) := by decide +kernel
theorem dL_isBegun_315 : decode cL_isBegun 315 = .ok (.iload 18, 2) := by decide +kernel
theorem dL_isBegun_317 : decode cL_isBegun 317 = .ok (.iconst 3, 1) := by decide +kernel
theorem dL_isBegun_318 : decode cL_isBegun 318 = .ok (.if_icmp .le 9, 3) := by decide +kernel
theorem dL_isBegun_321 : decode cL_isBegun 321 = .ok (.ldc2_w 163, 3) := by decide +kernel
theorem dL_isBegun_324 : decode cL_isBegun 324 = .ok (.goto 4, 3) := by decide +kernel
theorem dL_isBegun_327 : decode cL_isBegun 327 = .ok (.lconst 0, 1) := by decide +kernel
theorem dL_isBegun_328 : decode cL_isBegun 328 = .ok (.lor, 1) := by decide +kernel
theorem dL_isBegun_329 : decode cL_isBegun 329 = .ok (.lastore, 1) := by decide +kernel
theorem dL_isBegun_330 : decode cL_isBegun 330 = .ok (.aload_n 2, 1) := by decide +kernel
theorem dL_isBegun_331 : decode cL_isBegun 331 = .ok (.aload 8, 2) := by decide +kernel
theorem dL_isBegun_333 : decode cL_isBegun 333 = .ok (.iconst 2, 1) := by decide +kernel
theorem dL_isBegun_334 : decode cL_isBegun 334 = .ok (.iaload, 1) := by decide +kernel
theorem dL_isBegun_335 : decode cL_isBegun 335 = .ok (.lconst 0, 1) := by decide +kernel
theorem dL_isBegun_336 : decode cL_isBegun 336 = .ok (.lastore, 1) := by decide +kernel
theorem dL_isBegun_337 : decode cL_isBegun 337 = .ok (.aload_n 3, 1) := by decide +kernel
theorem dL_isBegun_338 : decode cL_isBegun 338 = .ok (.aload 8, 2) := by decide +kernel
theorem dL_isBegun_340 : decode cL_isBegun 340 = .ok (.iconst 2, 1) := by decide +kernel
theorem dL_isBegun_341 : decode cL_isBegun 341 = .ok (.iaload, 1) := by decide +kernel
theorem dL_isBegun_342 : decode cL_isBegun 342 = .ok (.iload 17, 2) := by decide +kernel
theorem dL_isBegun_344 : decode cL_isBegun 344 = .ok (.iastore, 1) := by decide +kernel
theorem dL_isBegun_345 : decode cL_isBegun 345 = .ok (.aload 8, 2) := by decide +kernel
theorem dL_isBegun_347 : decode cL_isBegun 347 = .ok (.iconst 2, 1) := by decide +kernel
theorem dL_isBegun_348 : decode cL_isBegun 348 = .ok (.dup2, 1) := by decide +kernel
theorem dL_isBegun_349 : decode cL_isBegun 349 = .ok (.iaload, 1) := by decide +kernel
theorem dL_isBegun_350 : decode cL_isBegun 350 = .ok (.iconst 1, 1) := by decide +kernel
theorem dL_isBegun_351 : decode cL_isBegun 351 = .ok (.iadd, 1) := by decide +kernel
theorem dL_isBegun_352 : decode cL_isBegun 352 = .ok (.iastore, 1) := by decide +kernel
theorem dL_isBegun_353 : decode cL_isBegun 353 = .ok (.aload 6, 2) := by decide +kernel
theorem dL_isBegun_355 : decode cL_isBegun 355 = .ok (.iload 17, 2) := by decide +kernel
theorem dL_isBegun_357 : decode cL_isBegun 357 = .ok (.iload 11, 2) := by decide +kernel
theorem dL_isBegun_359 : decode cL_isBegun 359 = .ok (.iastore, 1) := by decide +kernel
theorem dL_isBegun_360 : decode cL_isBegun 360 = .ok (.aload 6, 2) := by decide +kernel
theorem dL_isBegun_362 : decode cL_isBegun 362 = .ok (.bipush 16, 2) := by decide +kernel
theorem dL_isBegun_364 : decode cL_isBegun 364 = .ok (.iload 17, 2) := by decide +kernel
theorem dL_isBegun_366 : decode cL_isBegun 366 = .ok (.iadd, 1) := by decide +kernel
theorem dL_isBegun_367 : decode cL_isBegun 367 = .ok (.iload 11, 2) := by decide +kernel
theorem dL_isBegun_369 : decode cL_isBegun 369 = .ok (.iastore, 1) := by decide +kernel
theorem dL_isBegun_370 : decode cL_isBegun 370 = .ok (.aload 6, 2) := by decide +kernel
theorem dL_isBegun_372 : decode cL_isBegun 372 = .ok (.bipush 32, 2) := by decide +kernel
theorem dL_isBegun_374 : decode cL_isBegun 374 = .ok (.iload 17, 2) := by decide +kernel
theorem dL_isBegun_376 : decode cL_isBegun 376 = .ok (.iadd, 1) := by decide +kernel
theorem dL_isBegun_377 : decode cL_isBegun 377 = .ok (.bipush 11, 2) := by decide +kernel
theorem dL_isBegun_379 : decode cL_isBegun 379 = .ok (.iload 12, 2) := by decide +kernel
theorem dL_isBegun_381 : decode cL_isBegun 381 = .ok (.imul, 1) := by decide +kernel
theorem dL_isBegun_382 : decode cL_isBegun 382 = .ok (.iastore, 1) := by decide +kernel
theorem dL_isBegun_383 : decode cL_isBegun 383 = .ok (.aload 6, 2) := by decide +kernel
theorem dL_isBegun_385 : decode cL_isBegun 385 = .ok (.bipush 48, 2) := by decide +kernel
theorem dL_isBegun_387 : decode cL_isBegun 387 = .ok (.iload 17, 2) := by decide +kernel
theorem dL_isBegun_389 : decode cL_isBegun 389 = .ok (.iadd, 1) := by decide +kernel
theorem dL_isBegun_390 : decode cL_isBegun 390 = .ok (.iload 13, 2) := by decide +kernel
theorem dL_isBegun_392 : decode cL_isBegun 392 = .ok (.iastore, 1) := by decide +kernel
theorem dL_isBegun_393 : decode cL_isBegun 393 = .ok (.aload 8, 2) := by decide +kernel
theorem dL_isBegun_395 : decode cL_isBegun 395 = .ok (.iconst 1, 1) := by decide +kernel
theorem dL_isBegun_396 : decode cL_isBegun 396 = .ok (.dup2, 1) := by decide +kernel
theorem dL_isBegun_397 : decode cL_isBegun 397 = .ok (.iaload, 1) := by decide +kernel
theorem dL_isBegun_398 : decode cL_isBegun 398 = .ok (.iconst 1, 1) := by decide +kernel
theorem dL_isBegun_399 : decode cL_isBegun 399 = .ok (.iadd, 1) := by decide +kernel
theorem dL_isBegun_400 : decode cL_isBegun 400 = .ok (.iastore, 1) := by decide +kernel
theorem dL_isBegun_401 : decode cL_isBegun 401 = .ok (.aload_n 0, 1) := by decide +kernel
theorem dL_isBegun_402 : decode cL_isBegun 402 = .ok (.iconst 1, 1) := by decide +kernel
theorem dL_isBegun_403 : decode cL_isBegun 403 = .ok (.iload 9, 2) := by decide +kernel
theorem dL_isBegun_405 : decode cL_isBegun 405 = .ok (.iload 10, 2) := by decide +kernel
theorem dL_isBegun_407 : decode cL_isBegun 407 = .ok (.iload 11, 2) := by decide +kernel
theorem dL_isBegun_409 : decode cL_isBegun 409 = .ok (.iload 12, 2) := by decide +kernel
theorem dL_isBegun_411 : decode cL_isBegun 411 = .ok (.iload 13, 2) := by decide +kernel
theorem dL_isBegun_413 : decode cL_isBegun 413 = .ok (.invokestatic 151, 3) := by decide +kernel
theorem dL_isBegun_416 : decode cL_isBegun 416 = .ok (.iload 17, 2) := by decide +kernel
theorem dL_isBegun_418 : decode cL_isBegun 418 = .ok (.if_icmp .ne 7, 3) := by decide +kernel
theorem dL_isBegun_421 : decode cL_isBegun 421 = .ok (.iconst 1, 1) := by decide +kernel
theorem dL_isBegun_422 : decode cL_isBegun 422 = .ok (.goto 4, 3) := by decide +kernel
theorem dL_isBegun_425 : decode cL_isBegun 425 = .ok (.iconst 0, 1) := by decide +kernel
theorem dL_isBegun_426 : decode cL_isBegun 426 = .ok (.ireturn, 1) := by decide +kernel
theorem dL_isSettled_0 : decode cL_isSettled 0 = .ok (.iconst 0, 1) := by decide +kernel
theorem dL_isSettled_1 : decode cL_isSettled 1 = .ok (.istore 5, 2) := by decide +kernel
theorem dL_isSettled_3 : decode cL_isSettled 3 = .ok (.aload_n 1, 1) := by decide +kernel
theorem dL_isSettled_4 : decode cL_isSettled 4 = .ok (.aload_n 2, 1) := by decide +kernel
theorem dL_isSettled_5 : decode cL_isSettled 5 = .ok (.aload_n 3, 1) := by decide +kernel
theorem dL_isSettled_6 : decode cL_isSettled 6 = .ok (.aload 4, 2) := by decide +kernel
theorem dL_isSettled_8 : decode cL_isSettled 8 = .ok (.invokestatic 165, 3) := by decide +kernel
theorem dL_isSettled_11 : decode cL_isSettled 11 = .ok (.istore 6, 2) := by decide +kernel
theorem dL_isSettled_13 : decode cL_isSettled 13 = .ok (.iload 6, 2) := by decide +kernel
theorem dL_isSettled_15 : decode cL_isSettled 15 = .ok (.ifCond .eq 93, 3) := by decide +kernel
theorem dL_isSettled_18 : decode cL_isSettled 18 = .ok (.iload 6, 2) := by decide +kernel
theorem dL_isSettled_20 : decode cL_isSettled 20 = .ok (.iload 6, 2) := by decide +kernel
theorem dL_isSettled_22 : decode cL_isSettled 22 = .ok (.ineg, 1) := by decide +kernel
theorem dL_isSettled_23 : decode cL_isSettled 23 = .ok (.iand, 1) := by decide +kernel
theorem dL_isSettled_24 : decode cL_isSettled 24 = .ok (.i2l, 1) := by decide +kernel
theorem dL_isSettled_25 : decode cL_isSettled 25 = .ok (.lconst 1, 1) := by decide +kernel
theorem dL_isSettled_26 : decode cL_isSettled 26 = .ok (.lsub, 1) := by decide +kernel
theorem dL_isSettled_27 : decode cL_isSettled 27 = .ok (.invokestatic 106, 3) := by decide +kernel
theorem dL_isSettled_30 : decode cL_isSettled 30 = .ok (.istore 7, 2) := by decide +kernel
theorem dL_isSettled_32 : decode cL_isSettled 32 = .ok (.aload_n 2, 1) := by decide +kernel
theorem dL_isSettled_33 : decode cL_isSettled 33 = .ok (.bipush 48, 2) := by decide +kernel
theorem dL_isSettled_35 : decode cL_isSettled 35 = .ok (.iload 7, 2) := by decide +kernel
theorem dL_isSettled_37 : decode cL_isSettled 37 = .ok (.iadd, 1) := by decide +kernel
theorem dL_isSettled_38 : decode cL_isSettled 38 = .ok (.dup2, 1) := by decide +kernel
theorem dL_isSettled_39 : decode cL_isSettled 39 = .ok (.iaload, 1) := by decide +kernel
theorem dL_isSettled_40 : decode cL_isSettled 40 = .ok (.iconst 1, 1) := by decide +kernel
theorem dL_isSettled_41 : decode cL_isSettled 41 = .ok (.iadd, 1) := by decide +kernel
theorem dL_isSettled_42 : decode cL_isSettled 42 = .ok (.iastore, 1) := by decide +kernel
theorem dL_isSettled_43 : decode cL_isSettled 43 = .ok (.aload_n 2, 1) := by decide +kernel
theorem dL_isSettled_44 : decode cL_isSettled 44 = .ok (.bipush 32, 2) := by decide +kernel
theorem dL_isSettled_46 : decode cL_isSettled 46 = .ok (.iload 7, 2) := by decide +kernel
theorem dL_isSettled_48 : decode cL_isSettled 48 = .ok (.iadd, 1) := by decide +kernel
theorem dL_isSettled_49 : decode cL_isSettled 49 = .ok (.iaload, 1) := by decide +kernel
theorem dL_isSettled_50 : decode cL_isSettled 50 = .ok (.ifCond .ne 30, 3) := by decide +kernel
theorem dL_isSettled_53 : decode cL_isSettled 53 = .ok (.aload_n 2, 1) := by decide +kernel
theorem dL_isSettled_54 : decode cL_isSettled 54 = .ok (.bipush 32, 2) := by decide +kernel
theorem dL_isSettled_56 : decode cL_isSettled 56 = .ok (.iload 7, 2) := by decide +kernel
theorem dL_isSettled_58 : decode cL_isSettled 58 = .ok (.iadd, 1) := by decide +kernel
theorem dL_isSettled_59 : decode cL_isSettled 59 = .ok (.iconst 2, 1) := by decide +kernel
theorem dL_isSettled_60 : decode cL_isSettled 60 = .ok (.iastore, 1) := by decide +kernel
theorem dL_isSettled_61 : decode cL_isSettled 61 = .ok (.aload_n 3, 1) := by decide +kernel
theorem dL_isSettled_62 : decode cL_isSettled 62 = .ok (.bipush 32, 2) := by decide +kernel
theorem dL_isSettled_64 : decode cL_isSettled 64 = .ok (.aload 4, 2) := by decide +kernel
theorem dL_isSettled_66 : decode cL_isSettled 66 = .ok (.iconst 3, 1) := by decide +kernel
theorem dL_isSettled_67 : decode cL_isSettled 67 = .ok (.iaload, 1) := by decide +kernel
theorem dL_isSettled_68 : decode cL_isSettled 68 = .ok (.iadd, 1) := by decide +kernel
theorem dL_isSettled_69 : decode cL_isSettled 69 = .ok (.iload 7, 2) := by decide +kernel
theorem dL_isSettled_71 : decode cL_isSettled 71 = .ok (.iastore, 1) := by decide +kernel
theorem dL_isSettled_72 : decode cL_isSettled 72 = .ok (.aload 4, 2) := by decide +kernel
theorem dL_isSettled_74 : decode cL_isSettled 74 = .ok (.iconst 3, 1) := by decide +kernel
theorem dL_isSettled_75 : decode cL_isSettled 75 = .ok (.dup2, 1) := by decide +kernel
theorem dL_isSettled_76 : decode cL_isSettled 76 = .ok (.iaload, 1) := by decide +kernel
theorem dL_isSettled_77 : decode cL_isSettled 77 = .ok (.iconst 1, 1) := by decide +kernel
theorem dL_isSettled_78 : decode cL_isSettled 78 = .ok (.iadd, 1) := by decide +kernel
theorem dL_isSettled_79 : decode cL_isSettled 79 = .ok (.iastore, 1) := by decide +kernel
theorem dL_isSettled_80 : decode cL_isSettled 80 = .ok (.aload_n 1, 1) := by decide +kernel
theorem dL_isSettled_81 : decode cL_isSettled 81 = .ok (.aload_n 2, 1) := by decide +kernel
theorem dL_isSettled_82 : decode cL_isSettled 82 = .ok (.aload_n 3, 1) := by decide +kernel
theorem dL_isSettled_83 : decode cL_isSettled 83 = .ok (.aload 4, 2) := by decide +kernel
theorem dL_isSettled_85 : decode cL_isSettled 85 = .ok (.aload 4, 2) := by decide +kernel
theorem dL_isSettled_87 : decode cL_isSettled 87 = .ok (.iconst 3, 1) := by decide +kernel
theorem dL_isSettled_88 : decode cL_isSettled 88 = .ok (.iaload, 1) := by decide +kernel
theorem dL_isSettled_89 : decode cL_isSettled 89 = .ok (.invokestatic 114, 3) := by decide +kernel
theorem dL_isSettled_92 : decode cL_isSettled 92 = .ok (.iinc 5 1, 3) := by decide +kernel
theorem dL_isSettled_95 : decode cL_isSettled 95 = .ok (.aload_n 1, 1) := by decide +kernel
theorem dL_isSettled_96 : decode cL_isSettled 96 = .ok (.aload_n 2, 1) := by decide +kernel
theorem dL_isSettled_97 : decode cL_isSettled 97 = .ok (.aload_n 3, 1) := by decide +kernel
theorem dL_isSettled_98 : decode cL_isSettled 98 = .ok (.aload 4, 2) := by decide +kernel
theorem dL_isSettled_100 : decode cL_isSettled 100 = .ok (.invokestatic 165, 3) := by decide +kernel
theorem dL_isSettled_103 : decode cL_isSettled 103 = .ok (.istore 6, 2) := by decide +kernel
theorem dL_isSettled_105 : decode cL_isSettled 105 = .ok (.goto (-92), 3) := by decide +kernel
theorem dL_isSettled_108 : decode cL_isSettled 108 = .ok (.aload_n 0, 1) := by decide +kernel
theorem dL_isSettled_109 : decode cL_isSettled 109 = .ok (.invokevirtual 169, 3) := by decide +kernel
theorem dL_isSettled_112 : decode cL_isSettled 112 = .ok (.iload 5, 2) := by decide +kernel
theorem dL_isSettled_114 : decode cL_isSettled 114 = .ok (.if_icmp .ne 7, 3) := by decide +kernel
theorem dL_isSettled_117 : decode cL_isSettled 117 = .ok (.iconst 1, 1) := by decide +kernel
theorem dL_isSettled_118 : decode cL_isSettled 118 = .ok (.goto 4, 3) := by decide +kernel
theorem dL_isSettled_121 : decode cL_isSettled 121 = .ok (.iconst 0, 1) := by decide +kernel
theorem dL_isSettled_122 : decode cL_isSettled 122 = .ok (.ireturn, 1) := by decide +kernel
theorem dL_isNode_0 : decode cL_isNode 0 = .ok (.iload 6, 2) := by decide +kernel
theorem dL_isNode_2 : decode cL_isNode 2 = .ok (.bipush 20, 2) := by decide +kernel
theorem dL_isNode_4 : decode cL_isNode 4 = .ok (.irem, 1) := by decide +kernel
theorem dL_isNode_5 : decode cL_isNode 5 = .ok (.ifCond .eq 9, 3) := by decide +kernel
theorem dL_isNode_8 : decode cL_isNode 8 = .ok (.aload_n 3, 1) := by decide +kernel
theorem dL_isNode_9 : decode cL_isNode 9 = .ok (.iconst 4, 1) := by decide +kernel
theorem dL_isNode_10 : decode cL_isNode 10 = .ok (.iaload, 1) := by decide +kernel
theorem dL_isNode_11 : decode cL_isNode 11 = .ok (.ifCond .ne 9, 3) := by decide +kernel
theorem dL_isNode_14 : decode cL_isNode 14 = .ok (.aload_n 3, 1) := by decide +kernel
theorem dL_isNode_15 : decode cL_isNode 15 = .ok (.iconst 4, 1) := by decide +kernel
theorem dL_isNode_16 : decode cL_isNode 16 = .ok (.iaload, 1) := by decide +kernel
theorem dL_isNode_17 : decode cL_isNode 17 = .ok (.goto 9, 3) := by decide +kernel
theorem dL_isNode_20 : decode cL_isNode 20 = .ok (.iload 6, 2) := by decide +kernel
theorem dL_isNode_22 : decode cL_isNode 22 = .ok (.aload_n 3, 1) := by decide +kernel
theorem dL_isNode_23 : decode cL_isNode 23 = .ok (.iconst 4, 1) := by decide +kernel
theorem dL_isNode_24 : decode cL_isNode 24 = .ok (.iaload, 1) := by decide +kernel
theorem dL_isNode_25 : decode cL_isNode 25 = .ok (.irem, 1) := by decide +kernel
theorem dL_isNode_26 : decode cL_isNode 26 = .ok (.istore 9, 2) := by decide +kernel
theorem dL_isNode_28 : decode cL_isNode 28 = .ok (.iload 5, 2) := by decide +kernel
theorem dL_isNode_30 : decode cL_isNode 30 = .ok (.ifCond .ne 178, 3) := by decide +kernel
theorem dL_isNode_33 : decode cL_isNode 33 = .ok (.iload 7, 2) := by decide +kernel
theorem dL_isNode_35 : decode cL_isNode 35 = .ok (.bipush 20, 2) := by decide +kernel
theorem dL_isNode_37 : decode cL_isNode 37 = .ok (.irem, 1) := by decide +kernel
theorem dL_isNode_38 : decode cL_isNode 38 = .ok (.ifCond .eq 9, 3) := by decide +kernel
theorem dL_isNode_41 : decode cL_isNode 41 = .ok (.aload_n 3, 1) := by decide +kernel
theorem dL_isNode_42 : decode cL_isNode 42 = .ok (.iconst 1, 1) := by decide +kernel
theorem dL_isNode_43 : decode cL_isNode 43 = .ok (.iaload, 1) := by decide +kernel
theorem dL_isNode_44 : decode cL_isNode 44 = .ok (.ifCond .ne 9, 3) := by decide +kernel
theorem dL_isNode_47 : decode cL_isNode 47 = .ok (.aload_n 3, 1) := by decide +kernel
theorem dL_isNode_48 : decode cL_isNode 48 = .ok (.iconst 1, 1) := by decide +kernel
theorem dL_isNode_49 : decode cL_isNode 49 = .ok (.iaload, 1) := by decide +kernel
theorem dL_isNode_50 : decode cL_isNode 50 = .ok (.goto 9, 3) := by decide +kernel
theorem dL_isNode_53 : decode cL_isNode 53 = .ok (.iload 7, 2) := by decide +kernel
theorem dL_isNode_55 : decode cL_isNode 55 = .ok (.aload_n 3, 1) := by decide +kernel
theorem dL_isNode_56 : decode cL_isNode 56 = .ok (.iconst 1, 1) := by decide +kernel
theorem dL_isNode_57 : decode cL_isNode 57 = .ok (.iaload, 1) := by decide +kernel
theorem dL_isNode_58 : decode cL_isNode 58 = .ok (.irem, 1) := by decide +kernel
theorem dL_isNode_59 : decode cL_isNode 59 = .ok (.istore 10, 2) := by decide +kernel
theorem dL_isNode_61 : decode cL_isNode 61 = .ok (.iload 10, 2) := by decide +kernel
theorem dL_isNode_63 : decode cL_isNode 63 = .ok (.aload_n 3, 1) := by decide +kernel
theorem dL_isNode_64 : decode cL_isNode 64 = .ok (.iconst 1, 1) := by decide +kernel
theorem dL_isNode_65 : decode cL_isNode 65 = .ok (.iaload, 1) := by decide +kernel
theorem dL_isNode_66 : decode cL_isNode 66 = .ok (.if_icmp .ge 16, 3) := by decide +kernel
theorem dL_isNode_69 : decode cL_isNode 69 = .ok (.iload 8, 2) := by decide +kernel
theorem dL_isNode_71 : decode cL_isNode 71 = .ok (.aload 4, 2) := by decide +kernel
theorem dL_isNode_73 : decode cL_isNode 73 = .ok (.iload 10, 2) := by decide +kernel
theorem dL_isNode_75 : decode cL_isNode 75 = .ok (.iaload, 1) := by decide +kernel
theorem dL_isNode_76 : decode cL_isNode 76 = .ok (.iconst 2, 1) := by decide +kernel
theorem dL_isNode_77 : decode cL_isNode 77 = .ok (.iadd, 1) := by decide +kernel
theorem dL_isNode_78 : decode cL_isNode 78 = .ok (.irem, 1) := by decide +kernel
theorem dL_isNode_79 : decode cL_isNode 79 = .ok (.goto 4, 3) := by decide +kernel
theorem dL_isNode_82 : decode cL_isNode 82 = .ok (.iconst 0, 1) := by decide +kernel
theorem dL_isNode_83 : decode cL_isNode 83 = .ok (.istore 11, 2) := by decide +kernel
theorem dL_isNode_85 : decode cL_isNode 85 = .ok (.iload 10, 2) := by decide +kernel
theorem dL_isNode_87 : decode cL_isNode 87 = .ok (.aload_n 3, 1) := by decide +kernel
theorem dL_isNode_88 : decode cL_isNode 88 = .ok (.iconst 1, 1) := by decide +kernel
theorem dL_isNode_89 : decode cL_isNode 89 = .ok (.iaload, 1) := by decide +kernel
theorem dL_isNode_90 : decode cL_isNode 90 = .ok (.if_icmp .ne 9, 3) := by decide +kernel
theorem dL_isNode_93 : decode cL_isNode 93 = .ok (.sipush (-300), 3) := by decide +kernel
theorem dL_isNode_96 : decode cL_isNode 96 = .ok (.goto 35, 3) := by decide +kernel
theorem dL_isNode_99 : decode cL_isNode 99 = .ok (.iload 11, 2) := by decide +kernel
theorem dL_isNode_101 : decode cL_isNode 101 = .ok (.aload 4, 2) := by decide +kernel
theorem dL_isNode_103 : decode cL_isNode 103 = .ok (.iload 10, 2) := by decide +kernel
theorem dL_isNode_105 : decode cL_isNode 105 = .ok (.iaload, 1) := by decide +kernel
theorem dL_isNode_106 : decode cL_isNode 106 = .ok (.if_icmp .le 9, 3) := by decide +kernel
theorem dL_isNode_109 : decode cL_isNode 109 = .ok (.sipush (-200), 3) := by decide +kernel
theorem dL_isNode_112 : decode cL_isNode 112 = .ok (.goto 19, 3) := by decide +kernel
theorem dL_isNode_115 : decode cL_isNode 115 = .ok (.aload_n 3, 1) := by decide +kernel
theorem dL_isNode_116 : decode cL_isNode 116 = .ok (.iconst 4, 1) := by decide +kernel
theorem dL_isNode_117 : decode cL_isNode 117 = .ok (.iaload, 1) := by decide +kernel
theorem dL_isNode_118 : decode cL_isNode 118 = .ok (.bipush 50, 2) := by decide +kernel
theorem dL_isNode_120 : decode cL_isNode 120 = .ok (.if_icmp .le 8, 3) := by decide +kernel
theorem dL_isNode_123 : decode cL_isNode 123 = .ok (.bipush (-100), 2) := by decide +kernel
theorem dL_isNode_125 : decode cL_isNode 125 = .ok (.goto 6, 3) := by decide +kernel
theorem dL_isNode_128 : decode cL_isNode 128 = .ok (.aload_n 3, 1) := by decide +kernel
theorem dL_isNode_129 : decode cL_isNode 129 = .ok (.iconst 4, 1) := by decide +kernel
theorem dL_isNode_130 : decode cL_isNode 130 = .ok (.iaload, 1) := by decide +kernel
theorem dL_isNode_131 : decode cL_isNode 131 = .ok (.istore 12, 2) := by decide +kernel
theorem dL_isNode_133 : decode cL_isNode 133 = .ok (.aload_n 3, 1) := by decide +kernel
theorem dL_isNode_134 : decode cL_isNode 134 = .ok (.iconst 4, 1) := by decide +kernel
theorem dL_isNode_135 : decode cL_isNode 135 = .ok (.iaload, 1) := by decide +kernel
theorem dL_isNode_136 : decode cL_isNode 136 = .ok (.bipush 50, 2) := by decide +kernel
theorem dL_isNode_138 : decode cL_isNode 138 = .ok (.if_icmp .le 24, 3) := by decide +kernel
theorem dL_isNode_141 : decode cL_isNode 141 = .ok (.iload 12, 2) := by decide +kernel
theorem dL_isNode_143 : decode cL_isNode 143 = .ok (.bipush (-100), 2) := by decide +kernel
theorem dL_isNode_145 : decode cL_isNode 145 = .ok (.if_icmp .ne 17, 3) := by decide +kernel
theorem dL_isNode_148 : decode cL_isNode 148 = .ok (.aload_n 0, 1) := by decide +kernel
theorem dL_isNode_149 : decode cL_isNode 149 = .ok (.iconst 0, 1) := by decide +kernel
theorem dL_isNode_150 : decode cL_isNode 150 = .ok (.invokevirtual 85, 3) := by decide +kernel
theorem dL_isNode_153 : decode cL_isNode 153 = .ok (.ifCond .lt 7, 3) := by decide +kernel
theorem dL_isNode_156 : decode cL_isNode 156 = .ok (.iconst 1, 1) := by decide +kernel
theorem dL_isNode_157 : decode cL_isNode 157 = .ok (.goto 4, 3) := by decide +kernel
theorem dL_isNode_160 : decode cL_isNode 160 = .ok (.iconst 0, 1) := by decide +kernel
theorem dL_isNode_161 : decode cL_isNode 161 = .ok (.ireturn, 1) := by decide +kernel
theorem dL_isNode_162 : decode cL_isNode 162 = .ok (.iload 12, 2) := by decide +kernel
theorem dL_isNode_164 : decode cL_isNode 164 = .ok (.ifCond .lt 20, 3) := by decide +kernel
theorem dL_isNode_167 : decode cL_isNode 167 = .ok (.aload_n 1, 1) := by decide +kernel
theorem dL_isNode_168 : decode cL_isNode 168 = .ok (.iload 12, 2) := by decide +kernel
theorem dL_isNode_170 : decode cL_isNode 170 = .ok (.iconst 0, 1) := by decide +kernel
theorem dL_isNode_171 : decode cL_isNode 171 = .ok (.iastore, 1) := by decide +kernel
theorem dL_isNode_172 : decode cL_isNode 172 = .ok (.aload_n 2, 1) := by decide +kernel
theorem dL_isNode_173 : decode cL_isNode 173 = .ok (.iload 12, 2) := by decide +kernel
theorem dL_isNode_175 : decode cL_isNode 175 = .ok (.iconst 0, 1) := by decide +kernel
theorem dL_isNode_176 : decode cL_isNode 176 = .ok (.iastore, 1) := by decide +kernel
theorem dL_isNode_177 : decode cL_isNode 177 = .ok (.aload_n 3, 1) := by decide +kernel
theorem dL_isNode_178 : decode cL_isNode 178 = .ok (.iconst 4, 1) := by decide +kernel
theorem dL_isNode_179 : decode cL_isNode 179 = .ok (.dup2, 1) := by decide +kernel
theorem dL_isNode_180 : decode cL_isNode 180 = .ok (.iaload, 1) := by decide +kernel
theorem dL_isNode_181 : decode cL_isNode 181 = .ok (.iconst 1, 1) := by decide +kernel
theorem dL_isNode_182 : decode cL_isNode 182 = .ok (.iadd, 1) := by decide +kernel
theorem dL_isNode_183 : decode cL_isNode 183 = .ok (.iastore, 1) := by decide +kernel
theorem dL_isNode_184 : decode cL_isNode 184 = .ok (.aload_n 0, 1) := by decide +kernel
theorem dL_isNode_185 : decode cL_isNode 185 = .ok (.bipush 6, 2) := by decide +kernel
theorem dL_isNode_187 : decode cL_isNode 187 = .ok (.iload 10, 2) := by decide +kernel
theorem dL_isNode_189 : decode cL_isNode 189 = .ok (.iload 11, 2) := by decide +kernel
theorem dL_isNode_191 : decode cL_isNode 191 = .ok (.iconst 0, 1) := by decide +kernel
theorem dL_isNode_192 : decode cL_isNode 192 = .ok (.iconst 0, 1) := by decide +kernel
theorem dL_isNode_193 : decode cL_isNode 193 = .ok (.iconst 0, 1) := by decide +kernel
theorem dL_isNode_194 : decode cL_isNode 194 = .ok (.invokestatic 151, 3) := by decide +kernel
theorem dL_isNode_197 : decode cL_isNode 197 = .ok (.iload 12, 2) := by decide +kernel
theorem dL_isNode_199 : decode cL_isNode 199 = .ok (.if_icmp .ne 7, 3) := by decide +kernel
theorem dL_isNode_202 : decode cL_isNode 202 = .ok (.iconst 1, 1) := by decide +kernel
theorem dL_isNode_203 : decode cL_isNode 203 = .ok (.goto 4, 3) := by decide +kernel
theorem dL_isNode_206 : decode cL_isNode 206 = .ok (.iconst 0, 1) := by decide +kernel
theorem dL_isNode_207 : decode cL_isNode 207 = .ok (.ireturn, 1) := by decide +kernel
theorem dL_isNode_208 : decode cL_isNode 208 = .ok (.iload 5, 2) := by decide +kernel
theorem dL_isNode_210 : decode cL_isNode 210 = .ok (.iconst 1, 1) := by decide +kernel
theorem dL_isNode_211 : decode cL_isNode 211 = .ok (.if_icmp .ne 242, 3) := by decide +kernel
theorem dL_isNode_214 : decode cL_isNode 214 = .ok (.iload 7, 2) := by decide +kernel
theorem dL_isNode_216 : decode cL_isNode 216 = .ok (.iconst 3, 1) := by decide +kernel
theorem dL_isNode_217 : decode cL_isNode 217 = .ok (.irem, 1) := by decide +kernel
theorem dL_isNode_218 : decode cL_isNode 218 = .ok (.ifCond .ne 7, 3) := by decide +kernel
theorem dL_isNode_221 : decode cL_isNode 221 = .ok (.iconst (-1), 1) := by decide +kernel
theorem dL_isNode_222 : decode cL_isNode 222 = .ok (.goto 10, 3) := by decide +kernel
theorem dL_isNode_225 : decode cL_isNode 225 = .ok (.iload 7, 2) := by decide +kernel
theorem dL_isNode_227 : decode cL_isNode 227 = .ok (.iconst 3, 1) := by decide +kernel
theorem dL_isNode_228 : decode cL_isNode 228 = .ok (.idiv, 1) := by decide +kernel
theorem dL_isNode_229 : decode cL_isNode 229 = .ok (.bipush 50, 2) := by decide +kernel
theorem dL_isNode_231 : decode cL_isNode 231 = .ok (.irem, 1) := by decide +kernel
theorem dL_isNode_232 : decode cL_isNode 232 = .ok (.istore 10, 2) := by decide +kernel
theorem dL_isNode_234 : decode cL_isNode 234 = .ok (.iload 9, 2) := by decide +kernel
theorem dL_isNode_236 : decode cL_isNode 236 = .ok (.aload_n 3, 1) := by decide +kernel
theorem dL_isNode_237 : decode cL_isNode 237 = .ok (.iconst 4, 1) := by decide +kernel
theorem dL_isNode_238 : decode cL_isNode 238 = .ok (.iaload, 1) := by decide +kernel
theorem dL_isNode_239 : decode cL_isNode 239 = .ok (.if_icmp .ge 14, 3) := by decide +kernel
theorem dL_isNode_242 : decode cL_isNode 242 = .ok (.iload 10, 2) := by decide +kernel
theorem dL_isNode_244 : decode cL_isNode 244 = .ok (.bipush 49, 2) := by decide +kernel
theorem dL_isNode_246 : decode cL_isNode 246 = .ok (.if_icmp .ge 7, 3) := by decide +kernel
theorem dL_isNode_249 : decode cL_isNode 249 = .ok (.iconst 1, 1) := by decide +kernel
theorem dL_isNode_250 : decode cL_isNode 250 = .ok (.goto 4, 3) := by decide +kernel
theorem dL_isNode_253 : decode cL_isNode 253 = .ok (.iconst 0, 1) := by decide +kernel
theorem dL_isNode_254 : decode cL_isNode 254 = .ok (.istore 11, 2) := by decide +kernel
theorem dL_isNode_256 : decode cL_isNode 256 = .ok (.aload_n 3, 1) := by decide +kernel
theorem dL_isNode_257 : decode cL_isNode 257 = .ok (.iconst 4, 1) := by decide +kernel
theorem dL_isNode_258 : decode cL_isNode 258 = .ok (.iaload, 1) := by decide +kernel
theorem dL_isNode_259 : decode cL_isNode 259 = .ok (.bipush 50, 2) := by decide +kernel
theorem dL_isNode_261 : decode cL_isNode 261 = .ok (.if_icmp .le 23, 3) := by decide +kernel
theorem dL_isNode_264 : decode cL_isNode 264 = .ok (.iload 11, 2) := by decide +kernel
theorem dL_isNode_266 : decode cL_isNode 266 = .ok (.ifCond .eq 18, 3) := by decide +kernel
theorem dL_isNode_269 : decode cL_isNode 269 = .ok (.aload_n 0, 1) := by decide +kernel
theorem dL_isNode_270 : decode cL_isNode 270 = .ok (.iload 9, 2) := by decide +kernel
theorem dL_isNode_272 : decode cL_isNode 272 = .ok (.invokevirtual 85, 3) := by decide +kernel
theorem dL_isNode_275 : decode cL_isNode 275 = .ok (.ifCond .lt 7, 3) := by decide +kernel
theorem dL_isNode_278 : decode cL_isNode 278 = .ok (.iconst 1, 1) := by decide +kernel
theorem dL_isNode_279 : decode cL_isNode 279 = .ok (.goto 4, 3) := by decide +kernel
theorem dL_isNode_282 : decode cL_isNode 282 = .ok (.iconst 0, 1) := by decide +kernel
theorem dL_isNode_283 : decode cL_isNode 283 = .ok (.ireturn, 1) := by decide +kernel
theorem dL_isNode_284 : decode cL_isNode 284 = .ok (.iconst (-1), 1) := by decide +kernel
theorem dL_isNode_285 : decode cL_isNode 285 = .ok (.istore 12, 2) := by decide +kernel
theorem dL_isNode_287 : decode cL_isNode 287 = .ok (.iconst 0, 1) := by decide +kernel
theorem dL_isNode_288 : decode cL_isNode 288 = .ok (.istore 13, 2) := by decide +kernel
theorem dL_isNode_290 : decode cL_isNode 290 = .ok (.iload 13, 2) := by decide +kernel
theorem dL_isNode_292 : decode cL_isNode 292 = .ok (.aload_n 3, 1) := by decide +kernel
theorem dL_isNode_293 : decode cL_isNode 293 = .ok (.iconst 4, 1) := by decide +kernel
theorem dL_isNode_294 : decode cL_isNode 294 = .ok (.iaload, 1) := by decide +kernel
theorem dL_isNode_295 : decode cL_isNode 295 = .ok (.if_icmp .ge 46, 3) := by decide +kernel
theorem dL_isNode_298 : decode cL_isNode 298 = .ok (.aload_n 1, 1) := by decide +kernel
theorem dL_isNode_299 : decode cL_isNode 299 = .ok (.iload 13, 2) := by decide +kernel
theorem dL_isNode_301 : decode cL_isNode 301 = .ok (.iaload, 1) := by decide +kernel
theorem dL_isNode_302 : decode cL_isNode 302 = .ok (.bipush 64, 2) := by decide +kernel
theorem dL_isNode_304 : decode cL_isNode 304 = .ok (.irem, 1) := by decide +kernel
theorem dL_isNode_305 : decode cL_isNode 305 = .ok (.iload 9, 2) := by decide +kernel
theorem dL_isNode_307 : decode cL_isNode 307 = .ok (.iconst 1, 1) := by decide +kernel
theorem dL_isNode_308 : decode cL_isNode 308 = .ok (.iadd, 1) := by decide +kernel
theorem dL_isNode_309 : decode cL_isNode 309 = .ok (.if_icmp .ne 22, 3) := by decide +kernel
theorem dL_isNode_312 : decode cL_isNode 312 = .ok (.aload_n 1, 1) := by decide +kernel
theorem dL_isNode_313 : decode cL_isNode 313 = .ok (.iload 13, 2) := by decide +kernel
theorem dL_isNode_315 : decode cL_isNode 315 = .ok (.iaload, 1) := by decide +kernel
theorem dL_isNode_316 : decode cL_isNode 316 = .ok (.bipush 64, 2) := by decide +kernel
theorem dL_isNode_318 : decode cL_isNode 318 = .ok (.idiv, 1) := by decide +kernel
theorem dL_isNode_319 : decode cL_isNode 319 = .ok (.iload 10, 2) := by decide +kernel
theorem dL_isNode_321 : decode cL_isNode 321 = .ok (.iconst 2, 1) := by decide +kernel
theorem dL_isNode_322 : decode cL_isNode 322 = .ok (.iadd, 1) := by decide +kernel
theorem dL_isNode_323 : decode cL_isNode 323 = .ok (.if_icmp .ne 8, 3) := by decide +kernel
theorem dL_isNode_326 : decode cL_isNode 326 = .ok (.iload 13, 2) := by decide +kernel
theorem dL_isNode_328 : decode cL_isNode 328 = .ok (.goto 5, 3) := by decide +kernel
theorem dL_isNode_331 : decode cL_isNode 331 = .ok (.iload 12, 2) := by decide +kernel
theorem dL_isNode_333 : decode cL_isNode 333 = .ok (.istore 12, 2) := by decide +kernel
theorem dL_isNode_335 : decode cL_isNode 335 = .ok (.iinc 13 1, 3) := by decide +kernel
theorem dL_isNode_338 : decode cL_isNode 338 = .ok (.goto (-48), 3) := by decide +kernel
theorem dL_isNode_341 : decode cL_isNode 341 = .ok (.aload_n 0, 1) := by decide +kernel
theorem dL_isNode_342 : decode cL_isNode 342 = .ok (.bipush 7, 2) := by decide +kernel
theorem dL_isNode_344 : decode cL_isNode 344 = .ok (.iload 9, 2) := by decide +kernel
theorem dL_isNode_346 : decode cL_isNode 346 = .ok (.iload 10, 2) := by decide +kernel
theorem dL_isNode_348 : decode cL_isNode 348 = .ok (.iconst 0, 1) := by decide +kernel
theorem dL_isNode_349 : decode cL_isNode 349 = .ok (.iconst 0, 1) := by decide +kernel
theorem dL_isNode_350 : decode cL_isNode 350 = .ok (.iconst 0, 1) := by decide +kernel
theorem dL_isNode_351 : decode cL_isNode 351 = .ok (.invokestatic 151, 3) := by decide +kernel
theorem dL_isNode_354 : decode cL_isNode 354 = .ok (.istore 13, 2) := by decide +kernel
theorem dL_isNode_356 : decode cL_isNode 356 = .ok (.iload 11, 2) := by decide +kernel
theorem dL_isNode_358 : decode cL_isNode 358 = .ok (.ifCond .eq 46, 3) := by decide +kernel
theorem dL_isNode_361 : decode cL_isNode 361 = .ok (.iload 12, 2) := by decide +kernel
theorem dL_isNode_363 : decode cL_isNode 363 = .ok (.ifCond .ge 41, 3) := by decide +kernel
theorem dL_isNode_366 : decode cL_isNode 366 = .ok (.iload 13, 2) := by decide +kernel
theorem dL_isNode_368 : decode cL_isNode 368 = .ok (.aload_n 3, 1) := by decide +kernel
theorem dL_isNode_369 : decode cL_isNode 369 = .ok (.iconst 4, 1) := by decide +kernel
theorem dL_isNode_370 : decode cL_isNode 370 = .ok (.iaload, 1) := by decide +kernel
theorem dL_isNode_371 : decode cL_isNode 371 = .ok (.if_icmp .ne 33, 3) := by decide +kernel
theorem dL_isNode_374 : decode cL_isNode 374 = .ok (.aload_n 1, 1) := by decide +kernel
theorem dL_isNode_375 : decode cL_isNode 375 = .ok (.iload 13, 2) := by decide +kernel
theorem dL_isNode_377 : decode cL_isNode 377 = .ok (.iload 9, 2) := by decide +kernel
theorem dL_isNode_379 : decode cL_isNode 379 = .ok (.iconst 1, 1) := by decide +kernel
theorem dL_isNode_380 : decode cL_isNode 380 = .ok (.iadd, 1) := by decide +kernel
theorem dL_isNode_381 : decode cL_isNode 381 = .ok (.bipush 64, 2) := by decide +kernel
theorem dL_isNode_383 : decode cL_isNode 383 = .ok (.iload 10, 2) := by decide +kernel
theorem dL_isNode_385 : decode cL_isNode 385 = .ok (.iconst 2, 1) := by decide +kernel
theorem dL_isNode_386 : decode cL_isNode 386 = .ok (.iadd, 1) := by decide +kernel
theorem dL_isNode_387 : decode cL_isNode 387 = .ok (.imul, 1) := by decide +kernel
theorem dL_isNode_388 : decode cL_isNode 388 = .ok (.iadd, 1) := by decide +kernel
theorem dL_isNode_389 : decode cL_isNode 389 = .ok (.iastore, 1) := by decide +kernel
theorem dL_isNode_390 : decode cL_isNode 390 = .ok (.aload_n 2, 1) := by decide +kernel
theorem dL_isNode_391 : decode cL_isNode 391 = .ok (.iload 13, 2) := by decide +kernel
theorem dL_isNode_393 : decode cL_isNode 393 = .ok (.iconst 0, 1) := by decide +kernel
theorem dL_isNode_394 : decode cL_isNode 394 = .ok (.iastore, 1) := by decide +kernel
theorem dL_isNode_395 : decode cL_isNode 395 = .ok (.aload_n 3, 1) := by decide +kernel
theorem dL_isNode_396 : decode cL_isNode 396 = .ok (.iconst 4, 1) := by decide +kernel
theorem dL_isNode_397 : decode cL_isNode 397 = .ok (.dup2, 1) := by decide +kernel
theorem dL_isNode_398 : decode cL_isNode 398 = .ok (.iaload, 1) := by decide +kernel
theorem dL_isNode_399 : decode cL_isNode 399 = .ok (.iconst 1, 1) := by decide +kernel
theorem dL_isNode_400 : decode cL_isNode 400 = .ok (.iadd, 1) := by decide +kernel
theorem dL_isNode_401 : decode cL_isNode 401 = .ok (.iastore, 1) := by decide +kernel
theorem dL_isNode_402 : decode cL_isNode 402 = .ok (.iconst 1, 1) := by decide +kernel
theorem dL_isNode_403 : decode cL_isNode 403 = .ok (.ireturn, 1) := by decide +kernel
theorem dL_isNode_404 : decode cL_isNode 404 = .ok (.iload 13, 2) := by decide +kernel
theorem dL_isNode_406 : decode cL_isNode 406 = .ok (.iload 11, 2) := by decide +kernel
theorem dL_isNode_408 : decode cL_isNode 408 = .ok (.ifCond .ne 9, 3) := by decide +kernel
theorem dL_isNode_411 : decode cL_isNode 411 = .ok (.sipush (-300), 3) := by decide +kernel
theorem dL_isNode_414 : decode cL_isNode 414 = .ok (.goto 15, 3) := by decide +kernel
theorem dL_isNode_417 : decode cL_isNode 417 = .ok (.iload 12, 2) := by decide +kernel
theorem dL_isNode_419 : decode cL_isNode 419 = .ok (.ifCond .lt 8, 3) := by decide +kernel
theorem dL_isNode_422 : decode cL_isNode 422 = .ok (.iload 12, 2) := by decide +kernel
theorem dL_isNode_424 : decode cL_isNode 424 = .ok (.goto 5, 3) := by decide +kernel
theorem dL_isNode_427 : decode cL_isNode 427 = .ok (.bipush (-100), 2) := by decide +kernel
theorem dL_isNode_429 : decode cL_isNode 429 = .ok (.if_icmp .ne 22, 3) := by decide +kernel
theorem dL_isNode_432 : decode cL_isNode 432 = .ok (.iload 12, 2) := by decide +kernel
theorem dL_isNode_434 : decode cL_isNode 434 = .ok (.ifCond .ge 13, 3) := by decide +kernel
theorem dL_isNode_437 : decode cL_isNode 437 = .ok (.iload 11, 2) := by decide +kernel
theorem dL_isNode_439 : decode cL_isNode 439 = .ok (.ifCond .eq 8, 3) := by decide +kernel
theorem dL_isNode_442 : decode cL_isNode 442 = .ok (.iload 10, 2) := by decide +kernel
theorem dL_isNode_444 : decode cL_isNode 444 = .ok (.ifCond .lt 7, 3) := by decide +kernel
theorem dL_isNode_447 : decode cL_isNode 447 = .ok (.iconst 1, 1) := by decide +kernel
theorem dL_isNode_448 : decode cL_isNode 448 = .ok (.goto 4, 3) := by decide +kernel
theorem dL_isNode_451 : decode cL_isNode 451 = .ok (.iconst 0, 1) := by decide +kernel
theorem dL_isNode_452 : decode cL_isNode 452 = .ok (.ireturn, 1) := by decide +kernel
theorem dL_isNode_453 : decode cL_isNode 453 = .ok (.iload 7, 2) := by decide +kernel
theorem dL_isNode_455 : decode cL_isNode 455 = .ok (.iconst 5, 1) := by decide +kernel
theorem dL_isNode_456 : decode cL_isNode 456 = .ok (.irem, 1) := by decide +kernel
theorem dL_isNode_457 : decode cL_isNode 457 = .ok (.istore 10, 2) := by decide +kernel
theorem dL_isNode_459 : decode cL_isNode 459 = .ok (.iload 8, 2) := by decide +kernel
theorem dL_isNode_461 : decode cL_isNode 461 = .ok (.iconst 5, 1) := by decide +kernel
theorem dL_isNode_462 : decode cL_isNode 462 = .ok (.irem, 1) := by decide +kernel
theorem dL_isNode_463 : decode cL_isNode 463 = .ok (.istore 11, 2) := by decide +kernel
theorem dL_isNode_465 : decode cL_isNode 465 = .ok (.iload 10, 2) := by decide +kernel
theorem dL_isNode_467 : decode cL_isNode 467 = .ok (.ifCond .ne 7, 3) := by decide +kernel
theorem dL_isNode_470 : decode cL_isNode 470 = .ok (.iconst 1, 1) := by decide +kernel
theorem dL_isNode_471 : decode cL_isNode 471 = .ok (.goto 26, 3) := by decide +kernel
theorem dL_isNode_474 : decode cL_isNode 474 = .ok (.iload 10, 2) := by decide +kernel
theorem dL_isNode_476 : decode cL_isNode 476 = .ok (.iconst 1, 1) := by decide +kernel
theorem dL_isNode_477 : decode cL_isNode 477 = .ok (.if_icmp .ne 7, 3) := by decide +kernel
theorem dL_isNode_480 : decode cL_isNode 480 = .ok (.iconst 4, 1) := by decide +kernel
theorem dL_isNode_481 : decode cL_isNode 481 = .ok (.goto 16, 3) := by decide +kernel
theorem dL_isNode_484 : decode cL_isNode 484 = .ok (.iload 10, 2) := by decide +kernel
theorem dL_isNode_486 : decode cL_isNode 486 = .ok (.iconst 2, 1) := by decide +kernel
theorem dL_isNode_487 : decode cL_isNode 487 = .ok (.if_icmp .ne 8, 3) := by decide +kernel
theorem dL_isNode_490 : decode cL_isNode 490 = .ok (.bipush 16, 2) := by decide +kernel
theorem dL_isNode_492 : decode cL_isNode 492 = .ok (.goto 5, 3) := by decide +kernel
theorem dL_isNode_495 : decode cL_isNode 495 = .ok (.bipush 64, 2) := by decide +kernel
theorem dL_isNode_497 : decode cL_isNode 497 = .ok (.istore 12, 2) := by decide +kernel
theorem dL_isNode_499 : decode cL_isNode 499 = .ok (.iload 9, 2) := by decide +kernel
theorem dL_isNode_501 : decode cL_isNode 501 = .ok (.aload_n 3, 1) := by decide +kernel
theorem dL_isNode_502 : decode cL_isNode 502 = .ok (.iconst 4, 1) := by decide +kernel
theorem dL_isNode_503 : decode cL_isNode 503 = .ok (.iaload, 1) := by decide +kernel
theorem dL_isNode_504 : decode cL_isNode 504 = .ok (.if_icmp .eq 9, 3) := by decide +kernel
theorem dL_isNode_507 : decode cL_isNode 507 = .ok (.iload 10, 2) := by decide +kernel
theorem dL_isNode_509 : decode cL_isNode 509 = .ok (.iconst 4, 1) := by decide +kernel
theorem dL_isNode_510 : decode cL_isNode 510 = .ok (.if_icmp .ne 9, 3) := by decide +kernel
theorem dL_isNode_513 : decode cL_isNode 513 = .ok (.sipush (-300), 3) := by decide +kernel
theorem dL_isNode_516 : decode cL_isNode 516 = .ok (.goto 24, 3) := by decide +kernel
theorem dL_isNode_519 : decode cL_isNode 519 = .ok (.iload 11, 2) := by decide +kernel
theorem dL_isNode_521 : decode cL_isNode 521 = .ok (.iconst 4, 1) := by decide +kernel
theorem dL_isNode_522 : decode cL_isNode 522 = .ok (.if_icmp .ne 9, 3) := by decide +kernel
theorem dL_isNode_525 : decode cL_isNode 525 = .ok (.sipush (-200), 3) := by decide +kernel
theorem dL_isNode_528 : decode cL_isNode 528 = .ok (.goto 12, 3) := by decide +kernel
theorem dL_isNode_531 : decode cL_isNode 531 = .ok (.aload_n 2, 1) := by decide +kernel
theorem dL_isNode_532 : decode cL_isNode 532 = .ok (.iload 9, 2) := by decide +kernel
theorem dL_isNode_534 : decode cL_isNode 534 = .ok (.iaload, 1) := by decide +kernel
theorem dL_isNode_535 : decode cL_isNode 535 = .ok (.iload 12, 2) := by decide +kernel
theorem dL_isNode_537 : decode cL_isNode 537 = .ok (.idiv, 1) := by decide +kernel
theorem dL_isNode_538 : decode cL_isNode 538 = .ok (.iconst 4, 1) := by decide +kernel
theorem dL_isNode_539 : decode cL_isNode 539 = .ok (.irem, 1) := by decide +kernel
theorem dL_isNode_540 : decode cL_isNode 540 = .ok (.istore 13, 2) := by decide +kernel
theorem dL_isNode_542 : decode cL_isNode 542 = .ok (.iload 13, 2) := by decide +kernel
theorem dL_isNode_544 : decode cL_isNode 544 = .ok (.ifCond .lt 18, 3) := by decide +kernel
theorem dL_isNode_547 : decode cL_isNode 547 = .ok (.aload_n 2, 1) := by decide +kernel
theorem dL_isNode_548 : decode cL_isNode 548 = .ok (.iload 9, 2) := by decide +kernel
theorem dL_isNode_550 : decode cL_isNode 550 = .ok (.dup2, 1) := by decide +kernel
theorem dL_isNode_551 : decode cL_isNode 551 = .ok (.iaload, 1) := by decide +kernel
theorem dL_isNode_552 : decode cL_isNode 552 = .ok (.iload 11, 2) := by decide +kernel
theorem dL_isNode_554 : decode cL_isNode 554 = .ok (.iload 13, 2) := by decide +kernel
theorem dL_isNode_556 : decode cL_isNode 556 = .ok (.isub, 1) := by decide +kernel
theorem dL_isNode_557 : decode cL_isNode 557 = .ok (.iload 12, 2) := by decide +kernel
theorem dL_isNode_559 : decode cL_isNode 559 = .ok (.imul, 1) := by decide +kernel
theorem dL_isNode_560 : decode cL_isNode 560 = .ok (.iadd, 1) := by decide +kernel
theorem dL_isNode_561 : decode cL_isNode 561 = .ok (.iastore, 1) := by decide +kernel
theorem dL_isNode_562 : decode cL_isNode 562 = .ok (.aload_n 0, 1) := by decide +kernel
theorem dL_isNode_563 : decode cL_isNode 563 = .ok (.bipush 8, 2) := by decide +kernel
theorem dL_isNode_565 : decode cL_isNode 565 = .ok (.iload 9, 2) := by decide +kernel
theorem dL_isNode_567 : decode cL_isNode 567 = .ok (.iload 10, 2) := by decide +kernel
theorem dL_isNode_569 : decode cL_isNode 569 = .ok (.iload 11, 2) := by decide +kernel
theorem dL_isNode_571 : decode cL_isNode 571 = .ok (.iconst 0, 1) := by decide +kernel
theorem dL_isNode_572 : decode cL_isNode 572 = .ok (.iconst 0, 1) := by decide +kernel
theorem dL_isNode_573 : decode cL_isNode 573 = .ok (.invokestatic 151, 3) := by decide +kernel
theorem dL_isNode_576 : decode cL_isNode 576 = .ok (.iload 13, 2) := by decide +kernel
theorem dL_isNode_578 : decode cL_isNode 578 = .ok (.if_icmp .ne 7, 3) := by decide +kernel
theorem dL_isNode_581 : decode cL_isNode 581 = .ok (.iconst 1, 1) := by decide +kernel
theorem dL_isNode_582 : decode cL_isNode 582 = .ok (.goto 4, 3) := by decide +kernel
theorem dL_isNode_585 : decode cL_isNode 585 = .ok (.iconst 0, 1) := by decide +kernel
theorem dL_isNode_586 : decode cL_isNode 586 = .ok (.ireturn, 1) := by decide +kernel
theorem dL_isDone_0 : decode cL_isDone 0 = .ok (.aload_n 1, 1) := by decide +kernel
theorem dL_isDone_1 : decode cL_isDone 1 = .ok (.iload_n 2, 1) := by decide +kernel
theorem dL_isDone_2 : decode cL_isDone 2 = .ok (.bipush 50, 2) := by decide +kernel
theorem dL_isDone_4 : decode cL_isDone 4 = .ok (.invokestatic 173, 3) := by decide +kernel
theorem dL_isDone_7 : decode cL_isDone 7 = .ok (.istore 14, 2) := by decide +kernel
theorem dL_isDone_9 : decode cL_isDone 9 = .ok (.aload_n 1, 1) := by decide +kernel
theorem dL_isDone_10 : decode cL_isDone 10 = .ok (.iload_n 2, 1) := by decide +kernel
theorem dL_isDone_11 : decode cL_isDone 11 = .ok (.iconst 1, 1) := by decide +kernel
theorem dL_isDone_12 : decode cL_isDone 12 = .ok (.iadd, 1) := by decide +kernel
theorem dL_isDone_13 : decode cL_isDone 13 = .ok (.sipush 6000, 3) := by decide +kernel
theorem dL_isDone_16 : decode cL_isDone 16 = .ok (.invokestatic 173, 3) := by decide +kernel
theorem dL_isDone_19 : decode cL_isDone 19 = .ok (.istore 15, 2) := by decide +kernel
theorem dL_isDone_21 : decode cL_isDone 21 = .ok (.aload_n 1, 1) := by decide +kernel
theorem dL_isDone_22 : decode cL_isDone 22 = .ok (.iload_n 2, 1) := by decide +kernel
theorem dL_isDone_23 : decode cL_isDone 23 = .ok (.iconst 2, 1) := by decide +kernel
theorem dL_isDone_24 : decode cL_isDone 24 = .ok (.iadd, 1) := by decide +kernel
theorem dL_isDone_25 : decode cL_isDone 25 = .ok (.sipush 7000, 3) := by decide +kernel
theorem dL_isDone_28 : decode cL_isDone 28 = .ok (.invokestatic 173, 3) := by decide +kernel
theorem dL_isDone_31 : decode cL_isDone 31 = .ok (.istore 16, 2) := by decide +kernel
theorem dL_isDone_33 : decode cL_isDone 33 = .ok (.aload_n 1, 1) := by decide +kernel
theorem dL_isDone_34 : decode cL_isDone 34 = .ok (.iload_n 2, 1) := by decide +kernel
theorem dL_isDone_35 : decode cL_isDone 35 = .ok (.iconst 3, 1) := by decide +kernel
theorem dL_isDone_36 : decode cL_isDone 36 = .ok (.iadd, 1) := by decide +kernel
theorem dL_isDone_37 : decode cL_isDone 37 = .ok (.sipush 8000, 3) := by decide +kernel
theorem dL_isDone_40 : decode cL_isDone 40 = .ok (.invokestatic 173, 3) := by decide +kernel
theorem dL_isDone_43 : decode cL_isDone 43 = .ok (.istore 17, 2) := by decide +kernel
theorem dL_isDone_45 : decode cL_isDone 45 = .ok (.iload 15, 2) := by decide +kernel
theorem dL_isDone_47 : decode cL_isDone 47 = .ok (.bipush 20, 2) := by decide +kernel
theorem dL_isDone_49 : decode cL_isDone 49 = .ok (.irem, 1) := by decide +kernel
theorem dL_isDone_50 : decode cL_isDone 50 = .ok (.ifCond .eq 10, 3) := by decide +kernel
theorem dL_isDone_53 : decode cL_isDone 53 = .ok (.aload 10, 2) := by decide +kernel
theorem dL_isDone_55 : decode cL_isDone 55 = .ok (.iconst 1, 1) := by decide +kernel
theorem dL_isDone_56 : decode cL_isDone 56 = .ok (.iaload, 1) := by decide +kernel
theorem dL_isDone_57 : decode cL_isDone 57 = .ok (.ifCond .ne 10, 3) := by decide +kernel
theorem dL_isDone_60 : decode cL_isDone 60 = .ok (.aload 10, 2) := by decide +kernel
theorem dL_isDone_62 : decode cL_isDone 62 = .ok (.iconst 1, 1) := by decide +kernel
theorem dL_isDone_63 : decode cL_isDone 63 = .ok (.iaload, 1) := by decide +kernel
theorem dL_isDone_64 : decode cL_isDone 64 = .ok (.goto 26, 3) := by decide +kernel
theorem dL_isDone_67 : decode cL_isDone 67 = .ok (.iload 15, 2) := by decide +kernel
theorem dL_isDone_69 : decode cL_isDone 69 = .ok (.iconst 3, 1) := by decide +kernel
theorem dL_isDone_70 : decode cL_isDone 70 = .ok (.irem, 1) := by decide +kernel
theorem dL_isDone_71 : decode cL_isDone 71 = .ok (.ifCond .ne 12, 3) := by decide +kernel
theorem dL_isDone_74 : decode cL_isDone 74 = .ok (.aload 10, 2) := by decide +kernel
theorem dL_isDone_76 : decode cL_isDone 76 = .ok (.iconst 1, 1) := by decide +kernel
theorem dL_isDone_77 : decode cL_isDone 77 = .ok (.iaload, 1) := by decide +kernel
theorem dL_isDone_78 : decode cL_isDone 78 = .ok (.iconst 1, 1) := by decide +kernel
theorem dL_isDone_79 : decode cL_isDone 79 = .ok (.isub, 1) := by decide +kernel
theorem dL_isDone_80 : decode cL_isDone 80 = .ok (.goto 10, 3) := by decide +kernel
theorem dL_isDone_83 : decode cL_isDone 83 = .ok (.iload 15, 2) := by decide +kernel
theorem dL_isDone_85 : decode cL_isDone 85 = .ok (.aload 10, 2) := by decide +kernel
theorem dL_isDone_87 : decode cL_isDone 87 = .ok (.iconst 1, 1) := by decide +kernel
theorem dL_isDone_88 : decode cL_isDone 88 = .ok (.iaload, 1) := by decide +kernel
theorem dL_isDone_89 : decode cL_isDone 89 = .ok (.irem, 1) := by decide +kernel
theorem dL_isDone_90 : decode cL_isDone 90 = .ok (.istore 18, 2) := by decide +kernel
theorem dL_isDone_92 : decode cL_isDone 92 = .ok (.iload 14, 2) := by decide +kernel
theorem dL_isDone_94 : decode cL_isDone 94 = .ok (.iconst 4, 1) := by decide +kernel
theorem dL_isDone_95 : decode cL_isDone 95 = .ok (.if_icmp .ge 121, 3) := by decide +kernel
theorem dL_isDone_98 : decode cL_isDone 98 = .ok (.iload 16, 2) := by decide +kernel
theorem dL_isDone_100 : decode cL_isDone 100 = .ok (.bipush 30, 2) := by decide +kernel
theorem dL_isDone_102 : decode cL_isDone 102 = .ok (.irem, 1) := by decide +kernel
theorem dL_isDone_103 : decode cL_isDone 103 = .ok (.ifCond .ne 8, 3) := by decide +kernel
theorem dL_isDone_106 : decode cL_isDone 106 = .ok (.bipush 21, 2) := by decide +kernel
theorem dL_isDone_108 : decode cL_isDone 108 = .ok (.goto 8, 3) := by decide +kernel
theorem dL_isDone_111 : decode cL_isDone 111 = .ok (.iload 16, 2) := by decide +kernel
theorem dL_isDone_113 : decode cL_isDone 113 = .ok (.bipush 8, 2) := by decide +kernel
theorem dL_isDone_115 : decode cL_isDone 115 = .ok (.irem, 1) := by decide +kernel
theorem dL_isDone_116 : decode cL_isDone 116 = .ok (.istore 19, 2) := by decide +kernel
theorem dL_isDone_118 : decode cL_isDone 118 = .ok (.iload 19, 2) := by decide +kernel
theorem dL_isDone_120 : decode cL_isDone 120 = .ok (.bipush 20, 2) := by decide +kernel
theorem dL_isDone_122 : decode cL_isDone 122 = .ok (.if_icmp .le 9, 3) := by decide +kernel
theorem dL_isDone_125 : decode cL_isDone 125 = .ok (.sipush (-200), 3) := by decide +kernel
theorem dL_isDone_128 : decode cL_isDone 128 = .ok (.goto 21, 3) := by decide +kernel
theorem dL_isDone_131 : decode cL_isDone 131 = .ok (.aload 10, 2) := by decide +kernel
theorem dL_isDone_133 : decode cL_isDone 133 = .ok (.iconst 0, 1) := by decide +kernel
theorem dL_isDone_134 : decode cL_isDone 134 = .ok (.iaload, 1) := by decide +kernel
theorem dL_isDone_135 : decode cL_isDone 135 = .ok (.bipush 8, 2) := by decide +kernel
theorem dL_isDone_137 : decode cL_isDone 137 = .ok (.if_icmp .ne 8, 3) := by decide +kernel
theorem dL_isDone_140 : decode cL_isDone 140 = .ok (.bipush (-100), 2) := by decide +kernel
theorem dL_isDone_142 : decode cL_isDone 142 = .ok (.goto 7, 3) := by decide +kernel
theorem dL_isDone_145 : decode cL_isDone 145 = .ok (.aload 10, 2) := by decide +kernel
theorem dL_isDone_147 : decode cL_isDone 147 = .ok (.iconst 0, 1) := by decide +kernel
theorem dL_isDone_148 : decode cL_isDone 148 = .ok (.iaload, 1) := by decide +kernel
theorem dL_isDone_149 : decode cL_isDone 149 = .ok (.istore 20, 2) := by decide +kernel
theorem dL_isDone_151 : decode cL_isDone 151 = .ok (.iload 20, 2) := by decide +kernel
theorem dL_isDone_153 : decode cL_isDone 153 = .ok (.ifCond .lt 41, 3) := by decide +kernel
theorem dL_isDone_156 : decode cL_isDone 156 = .ok (.aload 6, 2) := by decide +kernel
theorem dL_isDone_158 : decode cL_isDone 158 = .ok (.iconst 3, 1) := by decide +kernel
theorem dL_isDone_159 : decode cL_isDone 159 = .ok (.iload 20, 2) := by decide +kernel
theorem dL_isDone_161 : decode cL_isDone 161 = .ok (.imul, 1) := by decide +kernel
theorem dL_isDone_162 : decode cL_isDone 162 = .ok (.iload 19, 2) := by decide +kernel
theorem dL_isDone_164 : decode cL_isDone 164 = .ok (.iastore, 1) := by decide +kernel
theorem dL_isDone_165 : decode cL_isDone 165 = .ok (.aload 6, 2) := by decide +kernel
theorem dL_isDone_167 : decode cL_isDone 167 = .ok (.iconst 3, 1) := by decide +kernel
theorem dL_isDone_168 : decode cL_isDone 168 = .ok (.iload 20, 2) := by decide +kernel
theorem dL_isDone_170 : decode cL_isDone 170 = .ok (.imul, 1) := by decide +kernel
theorem dL_isDone_171 : decode cL_isDone 171 = .ok (.iconst 1, 1) := by decide +kernel
theorem dL_isDone_172 : decode cL_isDone 172 = .ok (.iadd, 1) := by decide +kernel
theorem dL_isDone_173 : decode cL_isDone 173 = .ok (.iload 19, 2) := by decide +kernel
theorem dL_isDone_175 : decode cL_isDone 175 = .ok (.iastore, 1) := by decide +kernel
theorem dL_isDone_176 : decode cL_isDone 176 = .ok (.aload 6, 2) := by decide +kernel
theorem dL_isDone_178 : decode cL_isDone 178 = .ok (.iconst 3, 1) := by decide +kernel
theorem dL_isDone_179 : decode cL_isDone 179 = .ok (.iload 20, 2) := by decide +kernel
theorem dL_isDone_181 : decode cL_isDone 181 = .ok (.imul, 1) := by decide +kernel
theorem dL_isDone_182 : decode cL_isDone 182 = .ok (.iconst 2, 1) := by decide +kernel
theorem dL_isDone_183 : decode cL_isDone 183 = .ok (.iadd, 1) := by decide +kernel
theorem dL_isDone_184 : decode cL_isDone 184 = .ok (.iconst 0, 1) := by decide +kernel
theorem dL_isDone_185 : decode cL_isDone 185 = .ok (.iastore, 1) := by decide +kernel
theorem dL_isDone_186 : decode cL_isDone 186 = .ok (.aload 10, 2) := by decide +kernel
theorem dL_isDone_188 : decode cL_isDone 188 = .ok (.iconst 0, 1) := by decide +kernel
theorem dL_isDone_189 : decode cL_isDone 189 = .ok (.dup2, 1) := by decide +kernel
theorem dL_isDone_190 : decode cL_isDone 190 = .ok (.iaload, 1) := by decide +kernel
theorem dL_isDone_191 : decode cL_isDone 191 = .ok (.iconst 1, 1) := by decide +kernel
theorem dL_isDone_192 : decode cL_isDone 192 = .ok (.iadd, 1) := by decide +kernel
theorem dL_isDone_193 : decode cL_isDone 193 = .ok (.iastore, 1) := by decide +kernel
theorem dL_isDone_194 : decode cL_isDone 194 = .ok (.aload_n 0, 1) := by decide +kernel
theorem dL_isDone_195 : decode cL_isDone 195 = .ok (.iconst 0, 1) := by decide +kernel
theorem dL_isDone_196 : decode cL_isDone 196 = .ok (.iload 19, 2) := by decide +kernel
theorem dL_isDone_198 : decode cL_isDone 198 = .ok (.iconst 0, 1) := by decide +kernel
theorem dL_isDone_199 : decode cL_isDone 199 = .ok (.iconst 0, 1) := by decide +kernel
theorem dL_isDone_200 : decode cL_isDone 200 = .ok (.iconst 0, 1) := by decide +kernel
theorem dL_isDone_201 : decode cL_isDone 201 = .ok (.iconst 0, 1) := by decide +kernel
theorem dL_isDone_202 : decode cL_isDone 202 = .ok (.invokestatic 151, 3) := by decide +kernel
theorem dL_isDone_205 : decode cL_isDone 205 = .ok (.iload 20, 2) := by decide +kernel
theorem dL_isDone_207 : decode cL_isDone 207 = .ok (.if_icmp .ne 7, 3) := by decide +kernel
theorem dL_isDone_210 : decode cL_isDone 210 = .ok (.iconst 1, 1) := by decide +kernel
theorem dL_isDone_211 : decode cL_isDone 211 = .ok (.goto 4, 3) := by decide +kernel
theorem dL_isDone_214 : decode cL_isDone 214 = .ok (.iconst 0, 1) := by decide +kernel
theorem dL_isDone_215 : decode cL_isDone 215 = .ok (.ireturn, 1) := by decide +kernel
theorem dL_isDone_216 : decode cL_isDone 216 = .ok (.iload 14, 2) := by decide +kernel
theorem dL_isDone_218 : decode cL_isDone 218 = .ok (.bipush 10, 2) := by decide +kernel
theorem dL_isDone_220 : decode cL_isDone 220 = .ok (.if_icmp .ge 78, 3) := by decide +kernel
theorem dL_isDone_223 : decode cL_isDone 223 = .ok (.aload_n 0, 1) := by decide +kernel
theorem dL_isDone_224 : decode cL_isDone 224 = .ok (.aload_n 3, 1) := by decide +kernel
theorem dL_isDone_225 : decode cL_isDone 225 = .ok (.aload 4, 2) := by decide +kernel
theorem dL_isDone_227 : decode cL_isDone 227 = .ok (.aload 5, 2) := by decide +kernel
theorem dL_isDone_229 : decode cL_isDone 229 = .ok (.aload 6, 2) := by decide +kernel
theorem dL_isDone_231 : decode cL_isDone 231 = .ok (.aload 7, 2) := by decide +kernel
theorem dL_isDone_233 : decode cL_isDone 233 = .ok (.aload 8, 2) := by decide +kernel
theorem dL_isDone_235 : decode cL_isDone 235 = .ok (.aload 9, 2) := by decide +kernel
theorem dL_isDone_237 : decode cL_isDone 237 = .ok (.aload 10, 2) := by decide +kernel
theorem dL_isDone_239 : decode cL_isDone 239 = .ok (.iload 15, 2) := by decide +kernel
theorem dL_isDone_241 : decode cL_isDone 241 = .ok (.aload 10, 2) := by decide +kernel
theorem dL_isDone_243 : decode cL_isDone 243 = .ok (.iconst 0, 1) := by decide +kernel
theorem dL_isDone_244 : decode cL_isDone 244 = .ok (.iaload, 1) := by decide +kernel
theorem dL_isDone_245 : decode cL_isDone 245 = .ok (.iconst 1, 1) := by decide +kernel
theorem dL_isDone_246 : decode cL_isDone 246 = .ok (.iadd, 1) := by decide +kernel
theorem dL_isDone_247 : decode cL_isDone 247 = .ok (.irem, 1) := by decide +kernel
theorem dL_isDone_248 : decode cL_isDone 248 = .ok (.iload 16, 2) := by decide +kernel
theorem dL_isDone_250 : decode cL_isDone 250 = .ok (.aload 10, 2) := by decide +kernel
theorem dL_isDone_252 : decode cL_isDone 252 = .ok (.iconst 0, 1) := by decide +kernel
theorem dL_isDone_253 : decode cL_isDone 253 = .ok (.iaload, 1) := by decide +kernel
theorem dL_isDone_254 : decode cL_isDone 254 = .ok (.iconst 1, 1) := by decide +kernel
theorem dL_isDone_255 : decode cL_isDone 255 = .ok (.iadd, 1) := by decide +kernel
theorem dL_isDone_256 : decode cL_isDone 256 = .ok (.irem, 1) := by decide +kernel
theorem dL_isDone_257 : decode cL_isDone 257 = .ok (.iload 17, 2) := by decide +kernel
theorem dL_isDone_259 : decode cL_isDone 259 = .ok (.bipush 40, 2) := by decide +kernel
theorem dL_isDone_261 : decode cL_isDone 261 = .ok (.irem, 1) := by decide +kernel
theorem dL_isDone_262 : decode cL_isDone 262 = .ok (.ifCond .ne 9, 3) := by decide +kernel
theorem dL_isDone_265 : decode cL_isDone 265 = .ok (.sipush 3601, 3) := by decide +kernel
theorem dL_isDone_268 : decode cL_isDone 268 = .ok (.goto 9, 3) := by decide +kernel
theorem dL_isDone_271 : decode cL_isDone 271 = .ok (.iload 17, 2) := by decide +kernel
theorem dL_isDone_273 : decode cL_isDone 273 = .ok (.sipush 900, 3) := by decide +kernel
theorem dL_isDone_276 : decode cL_isDone 276 = .ok (.irem, 1) := by decide +kernel
theorem dL_isDone_277 : decode cL_isDone 277 = .ok (.iload 17, 2) := by decide +kernel
theorem dL_isDone_279 : decode cL_isDone 279 = .ok (.bipush 40, 2) := by decide +kernel
theorem dL_isDone_281 : decode cL_isDone 281 = .ok (.idiv, 1) := by decide +kernel
theorem dL_isDone_282 : decode cL_isDone 282 = .ok (.bipush 7, 2) := by decide +kernel
theorem dL_isDone_284 : decode cL_isDone 284 = .ok (.irem, 1) := by decide +kernel
theorem dL_isDone_285 : decode cL_isDone 285 = .ok (.iload 17, 2) := by decide +kernel
theorem dL_isDone_287 : decode cL_isDone 287 = .ok (.sipush 280, 3) := by decide +kernel
theorem dL_isDone_290 : decode cL_isDone 290 = .ok (.idiv, 1) := by decide +kernel
theorem dL_isDone_291 : decode cL_isDone 291 = .ok (.bipush 13, 2) := by decide +kernel
theorem dL_isDone_293 : decode cL_isDone 293 = .ok (.irem, 1) := by decide +kernel
theorem dL_isDone_294 : decode cL_isDone 294 = .ok (.invokestatic 176, 3) := by decide +kernel
theorem dL_isDone_297 : decode cL_isDone 297 = .ok (.ireturn, 1) := by decide +kernel
theorem dL_isDone_298 : decode cL_isDone 298 = .ok (.iload 14, 2) := by decide +kernel
theorem dL_isDone_300 : decode cL_isDone 300 = .ok (.bipush 28, 2) := by decide +kernel
theorem dL_isDone_302 : decode cL_isDone 302 = .ok (.if_icmp .ge 83, 3) := by decide +kernel
theorem dL_isDone_305 : decode cL_isDone 305 = .ok (.aload_n 0, 1) := by decide +kernel
theorem dL_isDone_306 : decode cL_isDone 306 = .ok (.aload_n 3, 1) := by decide +kernel
theorem dL_isDone_307 : decode cL_isDone 307 = .ok (.aload 4, 2) := by decide +kernel
theorem dL_isDone_309 : decode cL_isDone 309 = .ok (.aload 5, 2) := by decide +kernel
theorem dL_isDone_311 : decode cL_isDone 311 = .ok (.aload 6, 2) := by decide +kernel
theorem dL_isDone_313 : decode cL_isDone 313 = .ok (.aload 7, 2) := by decide +kernel
theorem dL_isDone_315 : decode cL_isDone 315 = .ok (.aload 8, 2) := by decide +kernel
theorem dL_isDone_317 : decode cL_isDone 317 = .ok (.aload 9, 2) := by decide +kernel
theorem dL_isDone_319 : decode cL_isDone 319 = .ok (.aload 10, 2) := by decide +kernel
theorem dL_isDone_321 : decode cL_isDone 321 = .ok (.aload 13, 2) := by decide +kernel
theorem dL_isDone_323 : decode cL_isDone 323 = .ok (.iload 18, 2) := by decide +kernel
theorem dL_isDone_325 : decode cL_isDone 325 = .ok (.iload 16, 2) := by decide +kernel
theorem dL_isDone_327 : decode cL_isDone 327 = .ok (.bipush 30, 2) := by decide +kernel
theorem dL_isDone_329 : decode cL_isDone 329 = .ok (.irem, 1) := by decide +kernel
theorem dL_isDone_330 : decode cL_isDone 330 = .ok (.ifCond .ne 8, 3) := by decide +kernel
theorem dL_isDone_333 : decode cL_isDone 333 = .ok (.bipush 49, 2) := by decide +kernel
theorem dL_isDone_335 : decode cL_isDone 335 = .ok (.goto 27, 3) := by decide +kernel
theorem dL_isDone_338 : decode cL_isDone 338 = .ok (.iload 16, 2) := by decide +kernel
theorem dL_isDone_340 : decode cL_isDone 340 = .ok (.iconst 3, 1) := by decide +kernel
theorem dL_isDone_341 : decode cL_isDone 341 = .ok (.irem, 1) := by decide +kernel
theorem dL_isDone_342 : decode cL_isDone 342 = .ok (.ifCond .ne 13, 3) := by decide +kernel
theorem dL_isDone_345 : decode cL_isDone 345 = .ok (.iload 16, 2) := by decide +kernel
theorem dL_isDone_347 : decode cL_isDone 347 = .ok (.iconst 3, 1) := by decide +kernel
theorem dL_isDone_348 : decode cL_isDone 348 = .ok (.idiv, 1) := by decide +kernel
theorem dL_isDone_349 : decode cL_isDone 349 = .ok (.bipush 12, 2) := by decide +kernel
theorem dL_isDone_351 : decode cL_isDone 351 = .ok (.irem, 1) := by decide +kernel
theorem dL_isDone_352 : decode cL_isDone 352 = .ok (.goto 10, 3) := by decide +kernel
theorem dL_isDone_355 : decode cL_isDone 355 = .ok (.iload 16, 2) := by decide +kernel
theorem dL_isDone_357 : decode cL_isDone 357 = .ok (.iconst 3, 1) := by decide +kernel
theorem dL_isDone_358 : decode cL_isDone 358 = .ok (.idiv, 1) := by decide +kernel
theorem dL_isDone_359 : decode cL_isDone 359 = .ok (.bipush 49, 2) := by decide +kernel
theorem dL_isDone_361 : decode cL_isDone 361 = .ok (.irem, 1) := by decide +kernel
theorem dL_isDone_362 : decode cL_isDone 362 = .ok (.iload 17, 2) := by decide +kernel
theorem dL_isDone_364 : decode cL_isDone 364 = .ok (.bipush 30, 2) := by decide +kernel
theorem dL_isDone_366 : decode cL_isDone 366 = .ok (.irem, 1) := by decide +kernel
theorem dL_isDone_367 : decode cL_isDone 367 = .ok (.ifCond .ne 9, 3) := by decide +kernel
theorem dL_isDone_370 : decode cL_isDone 370 = .ok (.sipush 1001, 3) := by decide +kernel
theorem dL_isDone_373 : decode cL_isDone 373 = .ok (.goto 8, 3) := by decide +kernel
theorem dL_isDone_376 : decode cL_isDone 376 = .ok (.iload 17, 2) := by decide +kernel
theorem dL_isDone_378 : decode cL_isDone 378 = .ok (.bipush 60, 2) := by decide +kernel
theorem dL_isDone_380 : decode cL_isDone 380 = .ok (.irem, 1) := by decide +kernel
theorem dL_isDone_381 : decode cL_isDone 381 = .ok (.invokestatic 180, 3) := by decide +kernel
theorem dL_isDone_384 : decode cL_isDone 384 = .ok (.ireturn, 1) := by decide +kernel
theorem dL_isDone_385 : decode cL_isDone 385 = .ok (.iload 14, 2) := by decide +kernel
theorem dL_isDone_387 : decode cL_isDone 387 = .ok (.bipush 32, 2) := by decide +kernel
theorem dL_isDone_389 : decode cL_isDone 389 = .ok (.if_icmp .ge 44, 3) := by decide +kernel
theorem dL_isDone_392 : decode cL_isDone 392 = .ok (.aload_n 0, 1) := by decide +kernel
theorem dL_isDone_393 : decode cL_isDone 393 = .ok (.aload_n 3, 1) := by decide +kernel
theorem dL_isDone_394 : decode cL_isDone 394 = .ok (.aload 4, 2) := by decide +kernel
theorem dL_isDone_396 : decode cL_isDone 396 = .ok (.aload 5, 2) := by decide +kernel
theorem dL_isDone_398 : decode cL_isDone 398 = .ok (.aload 6, 2) := by decide +kernel
theorem dL_isDone_400 : decode cL_isDone 400 = .ok (.aload 7, 2) := by decide +kernel
theorem dL_isDone_402 : decode cL_isDone 402 = .ok (.aload 8, 2) := by decide +kernel
theorem dL_isDone_404 : decode cL_isDone 404 = .ok (.aload 9, 2) := by decide +kernel
theorem dL_isDone_406 : decode cL_isDone 406 = .ok (.aload 10, 2) := by decide +kernel
theorem dL_isDone_408 : decode cL_isDone 408 = .ok (.iload 18, 2) := by decide +kernel
theorem dL_isDone_410 : decode cL_isDone 410 = .ok (.iload 17, 2) := by decide +kernel
theorem dL_isDone_412 : decode cL_isDone 412 = .ok (.bipush 30, 2) := by decide +kernel
theorem dL_isDone_414 : decode cL_isDone 414 = .ok (.irem, 1) := by decide +kernel
theorem dL_isDone_415 : decode cL_isDone 415 = .ok (.ifCond .ne 9, 3) := by decide +kernel
theorem dL_isDone_418 : decode cL_isDone 418 = .ok (.sipush 1001, 3) := by decide +kernel
theorem dL_isDone_421 : decode cL_isDone 421 = .ok (.goto 8, 3) := by decide +kernel
theorem dL_isDone_424 : decode cL_isDone 424 = .ok (.iload 17, 2) := by decide +kernel
theorem dL_isDone_426 : decode cL_isDone 426 = .ok (.bipush 60, 2) := by decide +kernel
theorem dL_isDone_428 : decode cL_isDone 428 = .ok (.irem, 1) := by decide +kernel
theorem dL_isDone_429 : decode cL_isDone 429 = .ok (.invokestatic 184, 3) := by decide +kernel
theorem dL_isDone_432 : decode cL_isDone 432 = .ok (.ireturn, 1) := by decide +kernel
theorem dL_isDone_433 : decode cL_isDone 433 = .ok (.iload 14, 2) := by decide +kernel
theorem dL_isDone_435 : decode cL_isDone 435 = .ok (.bipush 39, 2) := by decide +kernel
theorem dL_isDone_437 : decode cL_isDone 437 = .ok (.if_icmp .ge 91, 3) := by decide +kernel
theorem dL_isDone_440 : decode cL_isDone 440 = .ok (.iload 18, 2) := by decide +kernel
theorem dL_isDone_442 : decode cL_isDone 442 = .ok (.aload 10, 2) := by decide +kernel
theorem dL_isDone_444 : decode cL_isDone 444 = .ok (.iconst 1, 1) := by decide +kernel
theorem dL_isDone_445 : decode cL_isDone 445 = .ok (.iaload, 1) := by decide +kernel
theorem dL_isDone_446 : decode cL_isDone 446 = .ok (.if_icmp .ne 9, 3) := by decide +kernel
theorem dL_isDone_449 : decode cL_isDone 449 = .ok (.sipush (-300), 3) := by decide +kernel
theorem dL_isDone_452 : decode cL_isDone 452 = .ok (.goto 30, 3) := by decide +kernel
theorem dL_isDone_455 : decode cL_isDone 455 = .ok (.aload 7, 2) := by decide +kernel
theorem dL_isDone_457 : decode cL_isDone 457 = .ok (.bipush 32, 2) := by decide +kernel
theorem dL_isDone_459 : decode cL_isDone 459 = .ok (.iload 18, 2) := by decide +kernel
theorem dL_isDone_461 : decode cL_isDone 461 = .ok (.iadd, 1) := by decide +kernel
theorem dL_isDone_462 : decode cL_isDone 462 = .ok (.iaload, 1) := by decide +kernel
theorem dL_isDone_463 : decode cL_isDone 463 = .ok (.ifCond .le 8, 3) := by decide +kernel
theorem dL_isDone_466 : decode cL_isDone 466 = .ok (.bipush (-100), 2) := by decide +kernel
theorem dL_isDone_468 : decode cL_isDone 468 = .ok (.goto 14, 3) := by decide +kernel
theorem dL_isDone_471 : decode cL_isDone 471 = .ok (.iconst 2, 1) := by decide +kernel
theorem dL_isDone_472 : decode cL_isDone 472 = .ok (.aload 7, 2) := by decide +kernel
theorem dL_isDone_474 : decode cL_isDone 474 = .ok (.aload 9, 2) := by decide +kernel
theorem dL_isDone_476 : decode cL_isDone 476 = .ok (.iload 18, 2) := by decide +kernel
theorem dL_isDone_478 : decode cL_isDone 478 = .ok (.invokestatic 136, 3) := by decide +kernel
theorem dL_isDone_481 : decode cL_isDone 481 = .ok (.isub, 1) := by decide +kernel
theorem dL_isDone_482 : decode cL_isDone 482 = .ok (.istore 19, 2) := by decide +kernel
theorem dL_isDone_484 : decode cL_isDone 484 = .ok (.iload 19, 2) := by decide +kernel
theorem dL_isDone_486 : decode cL_isDone 486 = .ok (.ifCond .le 20, 3) := by decide +kernel
theorem dL_isDone_489 : decode cL_isDone 489 = .ok (.aload 6, 2) := by decide +kernel
theorem dL_isDone_491 : decode cL_isDone 491 = .ok (.aload 7, 2) := by decide +kernel
theorem dL_isDone_493 : decode cL_isDone 493 = .ok (.aload 9, 2) := by decide +kernel
theorem dL_isDone_495 : decode cL_isDone 495 = .ok (.aload 10, 2) := by decide +kernel
theorem dL_isDone_497 : decode cL_isDone 497 = .ok (.iload 18, 2) := by decide +kernel
theorem dL_isDone_499 : decode cL_isDone 499 = .ok (.iload 19, 2) := by decide +kernel
theorem dL_isDone_501 : decode cL_isDone 501 = .ok (.iconst 1, 1) := by decide +kernel
theorem dL_isDone_502 : decode cL_isDone 502 = .ok (.isub, 1) := by decide +kernel
theorem dL_isDone_503 : decode cL_isDone 503 = .ok (.invokestatic 147, 3) := by decide +kernel
theorem dL_isDone_506 : decode cL_isDone 506 = .ok (.aload_n 0, 1) := by decide +kernel
theorem dL_isDone_507 : decode cL_isDone 507 = .ok (.iconst 4, 1) := by decide +kernel
theorem dL_isDone_508 : decode cL_isDone 508 = .ok (.iload 18, 2) := by decide +kernel
theorem dL_isDone_510 : decode cL_isDone 510 = .ok (.iconst 0, 1) := by decide +kernel
theorem dL_isDone_511 : decode cL_isDone 511 = .ok (.iconst 0, 1) := by decide +kernel
theorem dL_isDone_512 : decode cL_isDone 512 = .ok (.iconst 0, 1) := by decide +kernel
theorem dL_isDone_513 : decode cL_isDone 513 = .ok (.iconst 0, 1) := by decide +kernel
theorem dL_isDone_514 : decode cL_isDone 514 = .ok (.invokestatic 151, 3) := by decide +kernel
theorem dL_isDone_517 : decode cL_isDone 517 = .ok (.iload 19, 2) := by decide +kernel
theorem dL_isDone_519 : decode cL_isDone 519 = .ok (.if_icmp .ne 7, 3) := by decide +kernel
theorem dL_isDone_522 : decode cL_isDone 522 = .ok (.iconst 1, 1) := by decide +kernel
theorem dL_isDone_523 : decode cL_isDone 523 = .ok (.goto 4, 3) := by decide +kernel
theorem dL_isDone_526 : decode cL_isDone 526 = .ok (.iconst 0, 1) := by decide +kernel
theorem dL_isDone_527 : decode cL_isDone 527 = .ok (.ireturn, 1) := by decide +kernel
theorem dL_isDone_528 : decode cL_isDone 528 = .ok (.iload 14, 2) := by decide +kernel
theorem dL_isDone_530 : decode cL_isDone 530 = .ok (.bipush 42, 2) := by decide +kernel
theorem dL_isDone_532 : decode cL_isDone 532 = .ok (.if_icmp .ge 131, 3) := by decide +kernel
theorem dL_isDone_535 : decode cL_isDone 535 = .ok (.iload 18, 2) := by decide +kernel
theorem dL_isDone_537 : decode cL_isDone 537 = .ok (.aload 10, 2) := by decide +kernel
theorem dL_isDone_539 : decode cL_isDone 539 = .ok (.iconst 1, 1) := by decide +kernel
theorem dL_isDone_540 : decode cL_isDone 540 = .ok (.iaload, 1) := by decide +kernel
theorem dL_isDone_541 : decode cL_isDone 541 = .ok (.if_icmp .ge 31, 3) := by decide +kernel
theorem dL_isDone_544 : decode cL_isDone 544 = .ok (.aload 7, 2) := by decide +kernel
theorem dL_isDone_546 : decode cL_isDone 546 = .ok (.bipush 32, 2) := by decide +kernel
theorem dL_isDone_548 : decode cL_isDone 548 = .ok (.iload 18, 2) := by decide +kernel
theorem dL_isDone_550 : decode cL_isDone 550 = .ok (.iadd, 1) := by decide +kernel
theorem dL_isDone_551 : decode cL_isDone 551 = .ok (.iaload, 1) := by decide +kernel
theorem dL_isDone_552 : decode cL_isDone 552 = .ok (.ifCond .le 20, 3) := by decide +kernel
theorem dL_isDone_555 : decode cL_isDone 555 = .ok (.aload 7, 2) := by decide +kernel
theorem dL_isDone_557 : decode cL_isDone 557 = .ok (.bipush 48, 2) := by decide +kernel
theorem dL_isDone_559 : decode cL_isDone 559 = .ok (.iload 18, 2) := by decide +kernel
theorem dL_isDone_561 : decode cL_isDone 561 = .ok (.iadd, 1) := by decide +kernel
theorem dL_isDone_562 : decode cL_isDone 562 = .ok (.iaload, 1) := by decide +kernel
theorem dL_isDone_563 : decode cL_isDone 563 = .ok (.iconst 2, 1) := by decide +kernel
theorem dL_isDone_564 : decode cL_isDone 564 = .ok (.irem, 1) := by decide +kernel
theorem dL_isDone_565 : decode cL_isDone 565 = .ok (.ifCond .ne 7, 3) := by decide +kernel
theorem dL_isDone_568 : decode cL_isDone 568 = .ok (.iconst 1, 1) := by decide +kernel
theorem dL_isDone_569 : decode cL_isDone 569 = .ok (.goto 4, 3) := by decide +kernel
theorem dL_isDone_572 : decode cL_isDone 572 = .ok (.iconst 0, 1) := by decide +kernel
theorem dL_isDone_573 : decode cL_isDone 573 = .ok (.istore 19, 2) := by decide +kernel
theorem dL_isDone_575 : decode cL_isDone 575 = .ok (.iload 19, 2) := by decide +kernel
theorem dL_isDone_577 : decode cL_isDone 577 = .ok (.ifCond .eq 30, 3) := by decide +kernel
theorem dL_isDone_580 : decode cL_isDone 580 = .ok (.aload 7, 2) := by decide +kernel
theorem dL_isDone_582 : decode cL_isDone 582 = .ok (.bipush 48, 2) := by decide +kernel
theorem dL_isDone_584 : decode cL_isDone 584 = .ok (.iload 18, 2) := by decide +kernel
theorem dL_isDone_586 : decode cL_isDone 586 = .ok (.iadd, 1) := by decide +kernel
theorem dL_isDone_587 : decode cL_isDone 587 = .ok (.dup2, 1) := by decide +kernel
theorem dL_isDone_588 : decode cL_isDone 588 = .ok (.iaload, 1) := by decide +kernel
theorem dL_isDone_589 : decode cL_isDone 589 = .ok (.iconst 1, 1) := by decide +kernel
theorem dL_isDone_590 : decode cL_isDone 590 = .ok (.iadd, 1) := by decide +kernel
theorem dL_isDone_591 : decode cL_isDone 591 = .ok (.iastore, 1) := by decide +kernel
theorem dL_isDone_592 : decode cL_isDone 592 = .ok (.aload 6, 2) := by decide +kernel
theorem dL_isDone_594 : decode cL_isDone 594 = .ok (.aload 7, 2) := by decide +kernel
theorem dL_isDone_596 : decode cL_isDone 596 = .ok (.aload 9, 2) := by decide +kernel
theorem dL_isDone_598 : decode cL_isDone 598 = .ok (.aload 10, 2) := by decide +kernel
theorem dL_isDone_600 : decode cL_isDone 600 = .ok (.aload 10, 2) := by decide +kernel
theorem dL_isDone_602 : decode cL_isDone 602 = .ok (.iconst 3, 1) := by decide +kernel
theorem dL_isDone_603 : decode cL_isDone 603 = .ok (.iaload, 1) := by decide +kernel
theorem dL_isDone_604 : decode cL_isDone 604 = .ok (.invokestatic 114, 3) := by decide +kernel
theorem dL_isDone_607 : decode cL_isDone 607 = .ok (.aload_n 0, 1) := by decide +kernel
theorem dL_isDone_608 : decode cL_isDone 608 = .ok (.iconst 5, 1) := by decide +kernel
theorem dL_isDone_609 : decode cL_isDone 609 = .ok (.iload 18, 2) := by decide +kernel
theorem dL_isDone_611 : decode cL_isDone 611 = .ok (.iconst 0, 1) := by decide +kernel
theorem dL_isDone_612 : decode cL_isDone 612 = .ok (.iconst 0, 1) := by decide +kernel
theorem dL_isDone_613 : decode cL_isDone 613 = .ok (.iconst 0, 1) := by decide +kernel
theorem dL_isDone_614 : decode cL_isDone 614 = .ok (.iconst 0, 1) := by decide +kernel
theorem dL_isDone_615 : decode cL_isDone 615 = .ok (.invokestatic 151, 3) := by decide +kernel
theorem dL_isDone_618 : decode cL_isDone 618 = .ok (.iload 18, 2) := by decide +kernel
theorem dL_isDone_620 : decode cL_isDone 620 = .ok (.aload 10, 2) := by decide +kernel
theorem dL_isDone_622 : decode cL_isDone 622 = .ok (.iconst 1, 1) := by decide +kernel
theorem dL_isDone_623 : decode cL_isDone 623 = .ok (.iaload, 1) := by decide +kernel
theorem dL_isDone_624 : decode cL_isDone 624 = .ok (.if_icmp .ne 9, 3) := by decide +kernel
theorem dL_isDone_627 : decode cL_isDone 627 = .ok (.sipush (-300), 3) := by decide +kernel
theorem dL_isDone_630 : decode cL_isDone 630 = .ok (.goto 24, 3) := by decide +kernel
theorem dL_isDone_633 : decode cL_isDone 633 = .ok (.iload 19, 2) := by decide +kernel
theorem dL_isDone_635 : decode cL_isDone 635 = .ok (.ifCond .eq 17, 3) := by decide +kernel
theorem dL_isDone_638 : decode cL_isDone 638 = .ok (.aload 6, 2) := by decide +kernel
theorem dL_isDone_640 : decode cL_isDone 640 = .ok (.aload 7, 2) := by decide +kernel
theorem dL_isDone_642 : decode cL_isDone 642 = .ok (.aload 9, 2) := by decide +kernel
theorem dL_isDone_644 : decode cL_isDone 644 = .ok (.aload 10, 2) := by decide +kernel
theorem dL_isDone_646 : decode cL_isDone 646 = .ok (.invokestatic 165, 3) := by decide +kernel
theorem dL_isDone_649 : decode cL_isDone 649 = .ok (.goto 5, 3) := by decide +kernel
theorem dL_isDone_652 : decode cL_isDone 652 = .ok (.bipush (-100), 2) := by decide +kernel
theorem dL_isDone_654 : decode cL_isDone 654 = .ok (.if_icmp .ne 7, 3) := by decide +kernel
theorem dL_isDone_657 : decode cL_isDone 657 = .ok (.iconst 1, 1) := by decide +kernel
theorem dL_isDone_658 : decode cL_isDone 658 = .ok (.goto 4, 3) := by decide +kernel
theorem dL_isDone_661 : decode cL_isDone 661 = .ok (.iconst 0, 1) := by decide +kernel
theorem dL_isDone_662 : decode cL_isDone 662 = .ok (.ireturn, 1) := by decide +kernel
theorem dL_isDone_663 : decode cL_isDone 663 = .ok (.iload 14, 2) := by decide +kernel
theorem dL_isDone_665 : decode cL_isDone 665 = .ok (.bipush 42, 2) := by decide +kernel
theorem dL_isDone_667 : decode cL_isDone 667 = .ok (.if_icmp .ne 16, 3) := by decide +kernel
theorem dL_isDone_670 : decode cL_isDone 670 = .ok (.aload_n 0, 1) := by decide +kernel
theorem dL_isDone_671 : decode cL_isDone 671 = .ok (.aload 6, 2) := by decide +kernel
theorem dL_isDone_673 : decode cL_isDone 673 = .ok (.aload 7, 2) := by decide +kernel
theorem dL_isDone_675 : decode cL_isDone 675 = .ok (.aload 9, 2) := by decide +kernel
theorem dL_isDone_677 : decode cL_isDone 677 = .ok (.aload 10, 2) := by decide +kernel
theorem dL_isDone_679 : decode cL_isDone 679 = .ok (.invokestatic 188, 3) := by decide +kernel
theorem dL_isDone_682 : decode cL_isDone 682 = .ok (.ireturn, 1) := by decide +kernel
theorem dL_isDone_683 : decode cL_isDone 683 = .ok (.aload_n 0, 1) := by decide +kernel
theorem dL_isDone_684 : decode cL_isDone 684 = .ok (.aload 11, 2) := by decide +kernel
theorem dL_isDone_686 : decode cL_isDone 686 = .ok (.aload 12, 2) := by decide +kernel
theorem dL_isDone_688 : decode cL_isDone 688 = .ok (.aload 10, 2) := by decide +kernel
theorem dL_isDone_690 : decode cL_isDone 690 = .ok (.aload 9, 2) := by decide +kernel
theorem dL_isDone_692 : decode cL_isDone 692 = .ok (.iload 14, 2) := by decide +kernel
theorem dL_isDone_694 : decode cL_isDone 694 = .ok (.bipush 45, 2) := by decide +kernel
theorem dL_isDone_696 : decode cL_isDone 696 = .ok (.if_icmp .ge 7, 3) := by decide +kernel
theorem dL_isDone_699 : decode cL_isDone 699 = .ok (.iconst 0, 1) := by decide +kernel
theorem dL_isDone_700 : decode cL_isDone 700 = .ok (.goto 15, 3) := by decide +kernel
theorem dL_isDone_703 : decode cL_isDone 703 = .ok (.iload 14, 2) := by decide +kernel
theorem dL_isDone_705 : decode cL_isDone 705 = .ok (.bipush 48, 2) := by decide +kernel
theorem dL_isDone_707 : decode cL_isDone 707 = .ok (.if_icmp .ge 7, 3) := by decide +kernel
theorem dL_isDone_710 : decode cL_isDone 710 = .ok (.iconst 1, 1) := by decide +kernel
theorem dL_isDone_711 : decode cL_isDone 711 = .ok (.goto 4, 3) := by decide +kernel
theorem dL_isDone_714 : decode cL_isDone 714 = .ok (.iconst 2, 1) := by decide +kernel
theorem dL_isDone_715 : decode cL_isDone 715 = .ok (.iload 15, 2) := by decide +kernel
theorem dL_isDone_717 : decode cL_isDone 717 = .ok (.iload 16, 2) := by decide +kernel
theorem dL_isDone_719 : decode cL_isDone 719 = .ok (.iload 17, 2) := by decide +kernel
theorem dL_isDone_721 : decode cL_isDone 721 = .ok (.invokestatic 192, 3) := by decide +kernel
theorem dL_isDone_724 : decode cL_isDone 724 = .ok (.ireturn, 1) := by decide +kernel
theorem dL_law_0 : decode cL_law 0 = .ok (.new 9, 3) := by decide +kernel
theorem dL_law_3 : decode cL_law 3 = .ok (.dup, 1) := by decide +kernel
theorem dL_law_4 : decode cL_law 4 = .ok (.invokespecial 196, 3) := by decide +kernel
theorem dL_law_7 : decode cL_law 7 = .ok (.astore_n 1, 1) := by decide +kernel
theorem dL_law_8 : decode cL_law 8 = .ok (.bipush 64, 2) := by decide +kernel
theorem dL_law_10 : decode cL_law 10 = .ok (.newarray .long, 2) := by decide +kernel
theorem dL_law_12 : decode cL_law 12 = .ok (.astore_n 2, 1) := by decide +kernel
theorem dL_law_13 : decode cL_law 13 = .ok (.bipush 64, 2) := by decide +kernel
theorem dL_law_15 : decode cL_law 15 = .ok (.newarray .long, 2) := by decide +kernel
theorem dL_law_17 : decode cL_law 17 = .ok (.astore_n 3, 1) := by decide +kernel
theorem dL_law_18 : decode cL_law 18 = .ok (.bipush 64, 2) := by decide +kernel
theorem dL_law_20 : decode cL_law 20 = .ok (.newarray .int, 2) := by decide +kernel
theorem dL_law_22 : decode cL_law 22 = .ok (.astore 4, 2) := by decide +kernel
theorem dL_law_24 : decode cL_law 24 = .ok (.bipush 24, 2) := by decide +kernel
theorem dL_law_26 : decode cL_law 26 = .ok (.newarray .int, 2) := by decide +kernel
theorem dL_law_28 : decode cL_law 28 = .ok (.astore 5, 2) := by decide +kernel
theorem dL_law_30 : decode cL_law 30 = .ok (.bipush 64, 2) := by decide +kernel
theorem dL_law_32 : decode cL_law 32 = .ok (.newarray .int, 2) := by decide +kernel
theorem dL_law_34 : decode cL_law 34 = .ok (.astore 6, 2) := by decide +kernel
theorem dL_law_36 : decode cL_law 36 = .ok (.bipush 64, 2) := by decide +kernel
theorem dL_law_38 : decode cL_law 38 = .ok (.newarray .int, 2) := by decide +kernel
theorem dL_law_40 : decode cL_law 40 = .ok (.astore 7, 2) := by decide +kernel
theorem dL_law_42 : decode cL_law 42 = .ok (.bipush 48, 2) := by decide +kernel
theorem dL_law_44 : decode cL_law 44 = .ok (.newarray .int, 2) := by decide +kernel
theorem dL_law_46 : decode cL_law 46 = .ok (.astore 8, 2) := by decide +kernel
theorem dL_law_48 : decode cL_law 48 = .ok (.iconst 5, 1) := by decide +kernel
theorem dL_law_49 : decode cL_law 49 = .ok (.newarray .int, 2) := by decide +kernel
theorem dL_law_51 : decode cL_law 51 = .ok (.astore 9, 2) := by decide +kernel
theorem dL_law_53 : decode cL_law 53 = .ok (.bipush 60, 2) := by decide +kernel
theorem dL_law_55 : decode cL_law 55 = .ok (.newarray .int, 2) := by decide +kernel
theorem dL_law_57 : decode cL_law 57 = .ok (.astore 10, 2) := by decide +kernel
theorem dL_law_59 : decode cL_law 59 = .ok (.bipush 60, 2) := by decide +kernel
theorem dL_law_61 : decode cL_law 61 = .ok (.newarray .int, 2) := by decide +kernel
theorem dL_law_63 : decode cL_law 63 = .ok (.astore 11, 2) := by decide +kernel
theorem dL_law_65 : decode cL_law 65 = .ok (.iconst 2, 1) := by decide +kernel
theorem dL_law_66 : decode cL_law 66 = .ok (.newarray .long, 2) := by decide +kernel
theorem dL_law_68 : decode cL_law 68 = .ok (.astore 12, 2) := by decide +kernel
theorem dL_law_70 : decode cL_law 70 = .ok (.aload_n 1, 1) := by decide +kernel
theorem dL_law_71 : decode cL_law 71 = .ok (.aload_n 2, 1) := by decide +kernel
theorem dL_law_72 : decode cL_law 72 = .ok (.aload_n 3, 1) := by decide +kernel
theorem dL_law_73 : decode cL_law 73 = .ok (.aload 4, 2) := by decide +kernel
theorem dL_law_75 : decode cL_law 75 = .ok (.aload 5, 2) := by decide +kernel
theorem dL_law_77 : decode cL_law 77 = .ok (.aload 6, 2) := by decide +kernel
theorem dL_law_79 : decode cL_law 79 = .ok (.aload 7, 2) := by decide +kernel
theorem dL_law_81 : decode cL_law 81 = .ok (.aload 8, 2) := by decide +kernel
theorem dL_law_83 : decode cL_law 83 = .ok (.aload 9, 2) := by decide +kernel
theorem dL_law_85 : decode cL_law 85 = .ok (.invokestatic 197, 3) := by decide +kernel
theorem dL_law_88 : decode cL_law 88 = .ok (.ifCond .eq 27, 3) := by decide +kernel
theorem dL_law_91 : decode cL_law 91 = .ok (.aload_n 1, 1) := by decide +kernel
theorem dL_law_92 : decode cL_law 92 = .ok (.aload 10, 2) := by decide +kernel
theorem dL_law_94 : decode cL_law 94 = .ok (.aload 11, 2) := by decide +kernel
theorem dL_law_96 : decode cL_law 96 = .ok (.aload 9, 2) := by decide +kernel
theorem dL_law_98 : decode cL_law 98 = .ok (.invokestatic 201, 3) := by decide +kernel
theorem dL_law_101 : decode cL_law 101 = .ok (.ifCond .eq 14, 3) := by decide +kernel
theorem dL_law_104 : decode cL_law 104 = .ok (.aload_n 1, 1) := by decide +kernel
theorem dL_law_105 : decode cL_law 105 = .ok (.invokevirtual 169, 3) := by decide +kernel
theorem dL_law_108 : decode cL_law 108 = .ok (.ifCond .ne 7, 3) := by decide +kernel
theorem dL_law_111 : decode cL_law 111 = .ok (.iconst 1, 1) := by decide +kernel
theorem dL_law_112 : decode cL_law 112 = .ok (.goto 4, 3) := by decide +kernel
theorem dL_law_115 : decode cL_law 115 = .ok (.iconst 0, 1) := by decide +kernel
theorem dL_law_116 : decode cL_law 116 = .ok (.istore 13, 2) := by decide +kernel
theorem dL_law_118 : decode cL_law 118 = .ok (.iconst 0, 1) := by decide +kernel
theorem dL_law_119 : decode cL_law 119 = .ok (.istore 14, 2) := by decide +kernel
theorem dL_law_121 : decode cL_law 121 = .ok (.iload 14, 2) := by decide +kernel
theorem dL_law_123 : decode cL_law 123 = .ok (.bipush 58, 2) := by decide +kernel
theorem dL_law_125 : decode cL_law 125 = .ok (.if_icmp .ge 87, 3) := by decide +kernel
theorem dL_law_128 : decode cL_law 128 = .ok (.iload 13, 2) := by decide +kernel
theorem dL_law_130 : decode cL_law 130 = .ok (.ifCond .eq 82, 3) := by decide +kernel
theorem dL_law_133 : decode cL_law 133 = .ok (.aload_n 1, 1) := by decide +kernel
theorem dL_law_134 : decode cL_law 134 = .ok (.aload_n 0, 1) := by decide +kernel
theorem dL_law_135 : decode cL_law 135 = .ok (.iconst 4, 1) := by decide +kernel
theorem dL_law_136 : decode cL_law 136 = .ok (.iload 14, 2) := by decide +kernel
theorem dL_law_138 : decode cL_law 138 = .ok (.imul, 1) := by decide +kernel
theorem dL_law_139 : decode cL_law 139 = .ok (.aload_n 2, 1) := by decide +kernel
theorem dL_law_140 : decode cL_law 140 = .ok (.aload_n 3, 1) := by decide +kernel
theorem dL_law_141 : decode cL_law 141 = .ok (.aload 4, 2) := by decide +kernel
theorem dL_law_143 : decode cL_law 143 = .ok (.aload 5, 2) := by decide +kernel
theorem dL_law_145 : decode cL_law 145 = .ok (.aload 6, 2) := by decide +kernel
theorem dL_law_147 : decode cL_law 147 = .ok (.aload 7, 2) := by decide +kernel
theorem dL_law_149 : decode cL_law 149 = .ok (.aload 8, 2) := by decide +kernel
theorem dL_law_151 : decode cL_law 151 = .ok (.aload 9, 2) := by decide +kernel
theorem dL_law_153 : decode cL_law 153 = .ok (.aload 10, 2) := by decide +kernel
theorem dL_law_155 : decode cL_law 155 = .ok (.aload 11, 2) := by decide +kernel
theorem dL_law_157 : decode cL_law 157 = .ok (.aload 12, 2) := by decide +kernel
theorem dL_law_159 : decode cL_law 159 = .ok (.invokestatic 205, 3) := by decide +kernel
theorem dL_law_162 : decode cL_law 162 = .ok (.ifCond .eq 41, 3) := by decide +kernel
theorem dL_law_165 : decode cL_law 165 = .ok (.aload_n 1, 1) := by decide +kernel
theorem dL_law_166 : decode cL_law 166 = .ok (.aload_n 2, 1) := by decide +kernel
theorem dL_law_167 : decode cL_law 167 = .ok (.aload_n 3, 1) := by decide +kernel
theorem dL_law_168 : decode cL_law 168 = .ok (.aload 4, 2) := by decide +kernel
theorem dL_law_170 : decode cL_law 170 = .ok (.aload 5, 2) := by decide +kernel
theorem dL_law_172 : decode cL_law 172 = .ok (.aload 6, 2) := by decide +kernel
theorem dL_law_174 : decode cL_law 174 = .ok (.aload 7, 2) := by decide +kernel
theorem dL_law_176 : decode cL_law 176 = .ok (.aload 8, 2) := by decide +kernel
theorem dL_law_178 : decode cL_law 178 = .ok (.aload 9, 2) := by decide +kernel
theorem dL_law_180 : decode cL_law 180 = .ok (.invokestatic 197, 3) := by decide +kernel
theorem dL_law_183 : decode cL_law 183 = .ok (.ifCond .eq 20, 3) := by decide +kernel
theorem dL_law_186 : decode cL_law 186 = .ok (.aload_n 1, 1) := by decide +kernel
theorem dL_law_187 : decode cL_law 187 = .ok (.aload 10, 2) := by decide +kernel
theorem dL_law_189 : decode cL_law 189 = .ok (.aload 11, 2) := by decide +kernel
theorem dL_law_191 : decode cL_law 191 = .ok (.aload 9, 2) := by decide +kernel
theorem dL_law_193 : decode cL_law 193 = .ok (.invokestatic 201, 3) := by decide +kernel
theorem dL_law_196 : decode cL_law 196 = .ok (.ifCond .eq 7, 3) := by decide +kernel
theorem dL_law_199 : decode cL_law 199 = .ok (.iconst 1, 1) := by decide +kernel
theorem dL_law_200 : decode cL_law 200 = .ok (.goto 4, 3) := by decide +kernel
theorem dL_law_203 : decode cL_law 203 = .ok (.iconst 0, 1) := by decide +kernel
theorem dL_law_204 : decode cL_law 204 = .ok (.istore 13, 2) := by decide +kernel
theorem dL_law_206 : decode cL_law 206 = .ok (.iinc 14 1, 3) := by decide +kernel
theorem dL_law_209 : decode cL_law 209 = .ok (.goto (-88), 3) := by decide +kernel
theorem dL_law_212 : decode cL_law 212 = .ok (.iload 13, 2) := by decide +kernel
theorem dL_law_214 : decode cL_law 214 = .ok (.ifCond .eq 160, 3) := by decide +kernel
theorem dL_law_217 : decode cL_law 217 = .ok (.aload_n 1, 1) := by decide +kernel
theorem dL_law_218 : decode cL_law 218 = .ok (.iconst 0, 1) := by decide +kernel
theorem dL_law_219 : decode cL_law 219 = .ok (.iconst (-1), 1) := by decide +kernel
theorem dL_law_220 : decode cL_law 220 = .ok (.iconst 0, 1) := by decide +kernel
theorem dL_law_221 : decode cL_law 221 = .ok (.iconst 0, 1) := by decide +kernel
theorem dL_law_222 : decode cL_law 222 = .ok (.iconst 0, 1) := by decide +kernel
theorem dL_law_223 : decode cL_law 223 = .ok (.iconst 0, 1) := by decide +kernel
theorem dL_law_224 : decode cL_law 224 = .ok (.invokestatic 151, 3) := by decide +kernel
theorem dL_law_227 : decode cL_law 227 = .ok (.sipush (-200), 3) := by decide +kernel
theorem dL_law_230 : decode cL_law 230 = .ok (.if_icmp .ne 144, 3) := by decide +kernel
theorem dL_law_233 : decode cL_law 233 = .ok (.aload_n 1, 1) := by decide +kernel
theorem dL_law_234 : decode cL_law 234 = .ok (.iconst 1, 1) := by decide +kernel
theorem dL_law_235 : decode cL_law 235 = .ok (.iconst (-1), 1) := by decide +kernel
theorem dL_law_236 : decode cL_law 236 = .ok (.iconst 0, 1) := by decide +kernel
theorem dL_law_237 : decode cL_law 237 = .ok (.iconst 0, 1) := by decide +kernel
theorem dL_law_238 : decode cL_law 238 = .ok (.iconst 0, 1) := by decide +kernel
theorem dL_law_239 : decode cL_law 239 = .ok (.iconst 0, 1) := by decide +kernel
theorem dL_law_240 : decode cL_law 240 = .ok (.invokestatic 151, 3) := by decide +kernel
theorem dL_law_243 : decode cL_law 243 = .ok (.sipush (-300), 3) := by decide +kernel
theorem dL_law_246 : decode cL_law 246 = .ok (.if_icmp .ne 128, 3) := by decide +kernel
theorem dL_law_249 : decode cL_law 249 = .ok (.aload_n 1, 1) := by decide +kernel
theorem dL_law_250 : decode cL_law 250 = .ok (.iconst 2, 1) := by decide +kernel
theorem dL_law_251 : decode cL_law 251 = .ok (.bipush 16, 2) := by decide +kernel
theorem dL_law_253 : decode cL_law 253 = .ok (.iconst 0, 1) := by decide +kernel
theorem dL_law_254 : decode cL_law 254 = .ok (.iconst 0, 1) := by decide +kernel
theorem dL_law_255 : decode cL_law 255 = .ok (.iconst 0, 1) := by decide +kernel
theorem dL_law_256 : decode cL_law 256 = .ok (.iconst 0, 1) := by decide +kernel
theorem dL_law_257 : decode cL_law 257 = .ok (.invokestatic 151, 3) := by decide +kernel
theorem dL_law_260 : decode cL_law 260 = .ok (.sipush (-300), 3) := by decide +kernel
theorem dL_law_263 : decode cL_law 263 = .ok (.if_icmp .ne 111, 3) := by decide +kernel
theorem dL_law_266 : decode cL_law 266 = .ok (.aload_n 1, 1) := by decide +kernel
theorem dL_law_267 : decode cL_law 267 = .ok (.iconst 3, 1) := by decide +kernel
theorem dL_law_268 : decode cL_law 268 = .ok (.iconst (-1), 1) := by decide +kernel
theorem dL_law_269 : decode cL_law 269 = .ok (.iconst 0, 1) := by decide +kernel
theorem dL_law_270 : decode cL_law 270 = .ok (.iconst 0, 1) := by decide +kernel
theorem dL_law_271 : decode cL_law 271 = .ok (.iconst 0, 1) := by decide +kernel
theorem dL_law_272 : decode cL_law 272 = .ok (.iconst 0, 1) := by decide +kernel
theorem dL_law_273 : decode cL_law 273 = .ok (.invokestatic 151, 3) := by decide +kernel
theorem dL_law_276 : decode cL_law 276 = .ok (.sipush (-300), 3) := by decide +kernel
theorem dL_law_279 : decode cL_law 279 = .ok (.if_icmp .ne 95, 3) := by decide +kernel
theorem dL_law_282 : decode cL_law 282 = .ok (.aload_n 1, 1) := by decide +kernel
theorem dL_law_283 : decode cL_law 283 = .ok (.iconst 5, 1) := by decide +kernel
theorem dL_law_284 : decode cL_law 284 = .ok (.bipush 16, 2) := by decide +kernel
theorem dL_law_286 : decode cL_law 286 = .ok (.iconst 0, 1) := by decide +kernel
theorem dL_law_287 : decode cL_law 287 = .ok (.iconst 0, 1) := by decide +kernel
theorem dL_law_288 : decode cL_law 288 = .ok (.iconst 0, 1) := by decide +kernel
theorem dL_law_289 : decode cL_law 289 = .ok (.iconst 0, 1) := by decide +kernel
theorem dL_law_290 : decode cL_law 290 = .ok (.invokestatic 151, 3) := by decide +kernel
theorem dL_law_293 : decode cL_law 293 = .ok (.sipush (-300), 3) := by decide +kernel
theorem dL_law_296 : decode cL_law 296 = .ok (.if_icmp .ne 78, 3) := by decide +kernel
theorem dL_law_299 : decode cL_law 299 = .ok (.aload_n 1, 1) := by decide +kernel
theorem dL_law_300 : decode cL_law 300 = .ok (.bipush 6, 2) := by decide +kernel
theorem dL_law_302 : decode cL_law 302 = .ok (.bipush 16, 2) := by decide +kernel
theorem dL_law_304 : decode cL_law 304 = .ok (.iconst 0, 1) := by decide +kernel
theorem dL_law_305 : decode cL_law 305 = .ok (.iconst 0, 1) := by decide +kernel
theorem dL_law_306 : decode cL_law 306 = .ok (.iconst 0, 1) := by decide +kernel
theorem dL_law_307 : decode cL_law 307 = .ok (.iconst 0, 1) := by decide +kernel
theorem dL_law_308 : decode cL_law 308 = .ok (.invokestatic 151, 3) := by decide +kernel
theorem dL_law_311 : decode cL_law 311 = .ok (.sipush (-300), 3) := by decide +kernel
theorem dL_law_314 : decode cL_law 314 = .ok (.if_icmp .ne 60, 3) := by decide +kernel
theorem dL_law_317 : decode cL_law 317 = .ok (.aload_n 1, 1) := by decide +kernel
theorem dL_law_318 : decode cL_law 318 = .ok (.bipush 9, 2) := by decide +kernel
theorem dL_law_320 : decode cL_law 320 = .ok (.bipush 60, 2) := by decide +kernel
theorem dL_law_322 : decode cL_law 322 = .ok (.iconst 0, 1) := by decide +kernel
theorem dL_law_323 : decode cL_law 323 = .ok (.iconst 0, 1) := by decide +kernel
theorem dL_law_324 : decode cL_law 324 = .ok (.iconst 0, 1) := by decide +kernel
theorem dL_law_325 : decode cL_law 325 = .ok (.iconst 0, 1) := by decide +kernel
theorem dL_law_326 : decode cL_law 326 = .ok (.invokestatic 151, 3) := by decide +kernel
theorem dL_law_329 : decode cL_law 329 = .ok (.sipush (-300), 3) := by decide +kernel
theorem dL_law_332 : decode cL_law 332 = .ok (.if_icmp .ne 42, 3) := by decide +kernel
theorem dL_law_335 : decode cL_law 335 = .ok (.aload_n 1, 1) := by decide +kernel
theorem dL_law_336 : decode cL_law 336 = .ok (.bipush 10, 2) := by decide +kernel
theorem dL_law_338 : decode cL_law 338 = .ok (.bipush 16, 2) := by decide +kernel
theorem dL_law_340 : decode cL_law 340 = .ok (.iconst 0, 1) := by decide +kernel
theorem dL_law_341 : decode cL_law 341 = .ok (.iconst 1, 1) := by decide +kernel
theorem dL_law_342 : decode cL_law 342 = .ok (.iconst 0, 1) := by decide +kernel
theorem dL_law_343 : decode cL_law 343 = .ok (.iconst 0, 1) := by decide +kernel
theorem dL_law_344 : decode cL_law 344 = .ok (.invokestatic 151, 3) := by decide +kernel
theorem dL_law_347 : decode cL_law 347 = .ok (.sipush (-300), 3) := by decide +kernel
theorem dL_law_350 : decode cL_law 350 = .ok (.if_icmp .ne 24, 3) := by decide +kernel
theorem dL_law_353 : decode cL_law 353 = .ok (.aload_n 1, 1) := by decide +kernel
theorem dL_law_354 : decode cL_law 354 = .ok (.bipush 11, 2) := by decide +kernel
theorem dL_law_356 : decode cL_law 356 = .ok (.iconst (-1), 1) := by decide +kernel
theorem dL_law_357 : decode cL_law 357 = .ok (.iconst 0, 1) := by decide +kernel
theorem dL_law_358 : decode cL_law 358 = .ok (.iconst 4, 1) := by decide +kernel
theorem dL_law_359 : decode cL_law 359 = .ok (.iconst 0, 1) := by decide +kernel
theorem dL_law_360 : decode cL_law 360 = .ok (.iconst 0, 1) := by decide +kernel
theorem dL_law_361 : decode cL_law 361 = .ok (.invokestatic 151, 3) := by decide +kernel
theorem dL_law_364 : decode cL_law 364 = .ok (.sipush (-300), 3) := by decide +kernel
theorem dL_law_367 : decode cL_law 367 = .ok (.if_icmp .ne 7, 3) := by decide +kernel
theorem dL_law_370 : decode cL_law 370 = .ok (.iconst 1, 1) := by decide +kernel
theorem dL_law_371 : decode cL_law 371 = .ok (.goto 4, 3) := by decide +kernel
theorem dL_law_374 : decode cL_law 374 = .ok (.iconst 0, 1) := by decide +kernel
theorem dL_law_375 : decode cL_law 375 = .ok (.ireturn, 1) := by decide +kernel
