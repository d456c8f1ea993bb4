theorem dX9_canPlay_74 : decode cX9_canPlay 74 = .ok (.aload_n 0, 1) := by decide +kernel
theorem dX9_canPlay_75 : decode cX9_canPlay 75 = .ok (.getfield 44, 3) := by decide +kernel
theorem dX9_canPlay_78 : decode cX9_canPlay 78 = .ok (.iload_n 1, 1) := by decide +kernel
theorem dX9_canPlay_79 : decode cX9_canPlay 79 = .ok (.iaload, 1) := by decide +kernel
theorem dX9_canPlay_80 : decode cX9_canPlay 80 = .ok (.aload_n 0, 1) := by decide +kernel
theorem dX9_canPlay_81 : decode cX9_canPlay 81 = .ok (.getfield 178, 3) := by decide +kernel
theorem dX9_canPlay_84 : decode cX9_canPlay 84 = .ok (.aload_n 0, 1) := by decide +kernel
theorem dX9_canPlay_85 : decode cX9_canPlay 85 = .ok (.getfield 182, 3) := by decide +kernel
theorem dX9_canPlay_88 : decode cX9_canPlay 88 = .ok (.invokevirtual 237, 3) := by decide +kernel
theorem dX9_canPlay_91 : decode cX9_canPlay 91 = .ok (.ifCond .ne 7, 3) := by decide +kernel
theorem dX9_canPlay_94 : decode cX9_canPlay 94 = .ok (.iconst 1, 1) := by decide +kernel
theorem dX9_canPlay_95 : decode cX9_canPlay 95 = .ok (.goto 4, 3) := by decide +kernel
theorem dX9_canPlay_98 : decode cX9_canPlay 98 = .ok (.iconst 0, 1) := by decide +kernel
theorem dX9_canPlay_99 : decode cX9_canPlay 99 = .ok (.ireturn, 1) := by decide +kernel
theorem dX9_play_0 : decode cX9_play 0 = .ok (.aload_n 0, 1) := by decide +kernel
theorem dX9_play_1 : decode cX9_play 1 = .ok (.iload_n 1, 1) := by decide +kernel
theorem dX9_play_2 : decode cX9_play 2 = .ok (.invokevirtual 241, 3) := by decide +kernel
theorem dX9_play_5 : decode cX9_play 5 = .ok (.ifCond .eq 14, 3) := by decide +kernel
theorem dX9_play_8 : decode cX9_play 8 = .ok (.iload_n 2, 1) := by decide +kernel
theorem dX9_play_9 : decode cX9_play 9 = .ok (.invokestatic 244, 3) := by decide +kernel
theorem dX9_play_12 : decode cX9_play 12 = .ok (.ifCond .eq 7, 3) := by decide +kernel
theorem dX9_play_15 : decode cX9_play 15 = .ok (.iconst 1, 1) := by decide +kernel
theorem dX9_play_16 : decode cX9_play 16 = .ok (.goto 4, 3) := by decide +kernel
theorem dX9_play_19 : decode cX9_play 19 = .ok (.iconst 0, 1) := by decide +kernel
theorem dX9_play_20 : decode cX9_play 20 = .ok (.istore 4, 2) := by decide +kernel
theorem dX9_play_22 : decode cX9_play 22 = .ok (.aload_n 0, 1) := by decide +kernel
theorem dX9_play_23 : decode cX9_play 23 = .ok (.iload 4, 2) := by decide +kernel
theorem dX9_play_25 : decode cX9_play 25 = .ok (.ifCond .ne 7, 3) := by decide +kernel
theorem dX9_play_28 : decode cX9_play 28 = .ok (.iconst 1, 1) := by decide +kernel
theorem dX9_play_29 : decode cX9_play 29 = .ok (.goto 32, 3) := by decide +kernel
theorem dX9_play_32 : decode cX9_play 32 = .ok (.iload_n 3, 1) := by decide +kernel
theorem dX9_play_33 : decode cX9_play 33 = .ok (.iconst 0, 1) := by decide +kernel
theorem dX9_play_34 : decode cX9_play 34 = .ok (.sipush 1000, 3) := by decide +kernel
theorem dX9_play_37 : decode cX9_play 37 = .ok (.invokestatic 133, 3) := by decide +kernel
theorem dX9_play_40 : decode cX9_play 40 = .ok (.ifCond .ne 7, 3) := by decide +kernel
theorem dX9_play_43 : decode cX9_play 43 = .ok (.iconst 2, 1) := by decide +kernel
theorem dX9_play_44 : decode cX9_play 44 = .ok (.goto 17, 3) := by decide +kernel
theorem dX9_play_47 : decode cX9_play 47 = .ok (.aload_n 0, 1) := by decide +kernel
theorem dX9_play_48 : decode cX9_play 48 = .ok (.iload_n 1, 1) := by decide +kernel
theorem dX9_play_49 : decode cX9_play 49 = .ok (.iload_n 2, 1) := by decide +kernel
theorem dX9_play_50 : decode cX9_play 50 = .ok (.invokevirtual 247, 3) := by decide +kernel
theorem dX9_play_53 : decode cX9_play 53 = .ok (.ifCond .eq 7, 3) := by decide +kernel
theorem dX9_play_56 : decode cX9_play 56 = .ok (.iconst 0, 1) := by decide +kernel
theorem dX9_play_57 : decode cX9_play 57 = .ok (.goto 4, 3) := by decide +kernel
theorem dX9_play_60 : decode cX9_play 60 = .ok (.iconst 3, 1) := by decide +kernel
theorem dX9_play_61 : decode cX9_play 61 = .ok (.invokevirtual 185, 3) := by decide +kernel
theorem dX9_play_64 : decode cX9_play 64 = .ok (.ifCond .eq 5, 3) := by decide +kernel
theorem dX9_play_67 : decode cX9_play 67 = .ok (.iconst 0, 1) := by decide +kernel
theorem dX9_play_68 : decode cX9_play 68 = .ok (.ireturn, 1) := by decide +kernel
theorem dX9_play_69 : decode cX9_play 69 = .ok (.aload_n 0, 1) := by decide +kernel
theorem dX9_play_70 : decode cX9_play 70 = .ok (.iload_n 1, 1) := by decide +kernel
theorem dX9_play_71 : decode cX9_play 71 = .ok (.aload_n 0, 1) := by decide +kernel
theorem dX9_play_72 : decode cX9_play 72 = .ok (.getfield 47, 3) := by decide +kernel
theorem dX9_play_75 : decode cX9_play 75 = .ok (.iload_n 1, 1) := by decide +kernel
theorem dX9_play_76 : decode cX9_play 76 = .ok (.iaload, 1) := by decide +kernel
theorem dX9_play_77 : decode cX9_play 77 = .ok (.invokevirtual 226, 3) := by decide +kernel
theorem dX9_play_80 : decode cX9_play 80 = .ok (.istore 5, 2) := by decide +kernel
theorem dX9_play_82 : decode cX9_play 82 = .ok (.aload_n 0, 1) := by decide +kernel
theorem dX9_play_83 : decode cX9_play 83 = .ok (.iload_n 1, 1) := by decide +kernel
theorem dX9_play_84 : decode cX9_play 84 = .ok (.iload_n 3, 1) := by decide +kernel
theorem dX9_play_85 : decode cX9_play 85 = .ok (.invokevirtual 251, 3) := by decide +kernel
theorem dX9_play_88 : decode cX9_play 88 = .ok (.ifCond .eq 14, 3) := by decide +kernel
theorem dX9_play_91 : decode cX9_play 91 = .ok (.aload_n 0, 1) := by decide +kernel
theorem dX9_play_92 : decode cX9_play 92 = .ok (.iload_n 1, 1) := by decide +kernel
theorem dX9_play_93 : decode cX9_play 93 = .ok (.iconst 1, 1) := by decide +kernel
theorem dX9_play_94 : decode cX9_play 94 = .ok (.iload 5, 2) := by decide +kernel
theorem dX9_play_96 : decode cX9_play 96 = .ok (.isub, 1) := by decide +kernel
theorem dX9_play_97 : decode cX9_play 97 = .ok (.invokevirtual 254, 3) := by decide +kernel
theorem dX9_play_100 : decode cX9_play 100 = .ok (.iconst (-1), 1) := by decide +kernel
theorem dX9_play_101 : decode cX9_play 101 = .ok (.ireturn, 1) := by decide +kernel
theorem dX9_play_102 : decode cX9_play 102 = .ok (.aload_n 0, 1) := by decide +kernel
theorem dX9_play_103 : decode cX9_play 103 = .ok (.getfield 44, 3) := by decide +kernel
theorem dX9_play_106 : decode cX9_play 106 = .ok (.iload_n 1, 1) := by decide +kernel
theorem dX9_play_107 : decode cX9_play 107 = .ok (.aload_n 0, 1) := by decide +kernel
theorem dX9_play_108 : decode cX9_play 108 = .ok (.aload_n 0, 1) := by decide +kernel
theorem dX9_play_109 : decode cX9_play 109 = .ok (.getfield 178, 3) := by decide +kernel
theorem dX9_play_112 : decode cX9_play 112 = .ok (.aload_n 0, 1) := by decide +kernel
theorem dX9_play_113 : decode cX9_play 113 = .ok (.getfield 182, 3) := by decide +kernel
theorem dX9_play_116 : decode cX9_play 116 = .ok (.aload_n 0, 1) := by decide +kernel
theorem dX9_play_117 : decode cX9_play 117 = .ok (.getfield 44, 3) := by decide +kernel
theorem dX9_play_120 : decode cX9_play 120 = .ok (.iload_n 1, 1) := by decide +kernel
theorem dX9_play_121 : decode cX9_play 121 = .ok (.iaload, 1) := by decide +kernel
theorem dX9_play_122 : decode cX9_play 122 = .ok (.invokevirtual 214, 3) := by decide +kernel
theorem dX9_play_125 : decode cX9_play 125 = .ok (.iastore, 1) := by decide +kernel
theorem dX9_play_126 : decode cX9_play 126 = .ok (.aload_n 0, 1) := by decide +kernel
theorem dX9_play_127 : decode cX9_play 127 = .ok (.getfield 47, 3) := by decide +kernel
theorem dX9_play_130 : decode cX9_play 130 = .ok (.iload_n 1, 1) := by decide +kernel
theorem dX9_play_131 : decode cX9_play 131 = .ok (.dup2, 1) := by decide +kernel
theorem dX9_play_132 : decode cX9_play 132 = .ok (.iaload, 1) := by decide +kernel
theorem dX9_play_133 : decode cX9_play 133 = .ok (.iconst 1, 1) := by decide +kernel
theorem dX9_play_134 : decode cX9_play 134 = .ok (.iadd, 1) := by decide +kernel
theorem dX9_play_135 : decode cX9_play 135 = .ok (.iastore, 1) := by decide +kernel
theorem dX9_play_136 : decode cX9_play 136 = .ok (.aload_n 0, 1) := by decide +kernel
theorem dX9_play_137 : decode cX9_play 137 = .ok (.getfield 50, 3) := by decide +kernel
theorem dX9_play_140 : decode cX9_play 140 = .ok (.iload_n 1, 1) := by decide +kernel
theorem dX9_play_141 : decode cX9_play 141 = .ok (.iconst 0, 1) := by decide +kernel
theorem dX9_play_142 : decode cX9_play 142 = .ok (.iastore, 1) := by decide +kernel
theorem dX9_play_143 : decode cX9_play 143 = .ok (.aload_n 0, 1) := by decide +kernel
theorem dX9_play_144 : decode cX9_play 144 = .ok (.getfield 171, 3) := by decide +kernel
theorem dX9_play_147 : decode cX9_play 147 = .ok (.ireturn, 1) := by decide +kernel
theorem dX9_pass_0 : decode cX9_pass 0 = .ok (.aload_n 0, 1) := by decide +kernel
theorem dX9_pass_1 : decode cX9_pass 1 = .ok (.iload_n 1, 1) := by decide +kernel
theorem dX9_pass_2 : decode cX9_pass 2 = .ok (.invokevirtual 241, 3) := by decide +kernel
theorem dX9_pass_5 : decode cX9_pass 5 = .ok (.istore_n 3, 1) := by decide +kernel
theorem dX9_pass_6 : decode cX9_pass 6 = .ok (.aload_n 0, 1) := by decide +kernel
theorem dX9_pass_7 : decode cX9_pass 7 = .ok (.iload_n 3, 1) := by decide +kernel
theorem dX9_pass_8 : decode cX9_pass 8 = .ok (.ifCond .ne 7, 3) := by decide +kernel
theorem dX9_pass_11 : decode cX9_pass 11 = .ok (.iconst 1, 1) := by decide +kernel
theorem dX9_pass_12 : decode cX9_pass 12 = .ok (.goto 32, 3) := by decide +kernel
theorem dX9_pass_15 : decode cX9_pass 15 = .ok (.iload_n 2, 1) := by decide +kernel
theorem dX9_pass_16 : decode cX9_pass 16 = .ok (.iconst 0, 1) := by decide +kernel
theorem dX9_pass_17 : decode cX9_pass 17 = .ok (.sipush 1000, 3) := by decide +kernel
theorem dX9_pass_20 : decode cX9_pass 20 = .ok (.invokestatic 133, 3) := by decide +kernel
theorem dX9_pass_23 : decode cX9_pass 23 = .ok (.ifCond .ne 7, 3) := by decide +kernel
theorem dX9_pass_26 : decode cX9_pass 26 = .ok (.iconst 2, 1) := by decide +kernel
theorem dX9_pass_27 : decode cX9_pass 27 = .ok (.goto 17, 3) := by decide +kernel
theorem dX9_pass_30 : decode cX9_pass 30 = .ok (.aload_n 0, 1) := by decide +kernel
theorem dX9_pass_31 : decode cX9_pass 31 = .ok (.getfield 34, 3) := by decide +kernel
theorem dX9_pass_34 : decode cX9_pass 34 = .ok (.iload_n 1, 1) := by decide +kernel
theorem dX9_pass_35 : decode cX9_pass 35 = .ok (.iaload, 1) := by decide +kernel
theorem dX9_pass_36 : decode cX9_pass 36 = .ok (.ifCond .ne 7, 3) := by decide +kernel
theorem dX9_pass_39 : decode cX9_pass 39 = .ok (.iconst 0, 1) := by decide +kernel
theorem dX9_pass_40 : decode cX9_pass 40 = .ok (.goto 4, 3) := by decide +kernel
theorem dX9_pass_43 : decode cX9_pass 43 = .ok (.iconst 3, 1) := by decide +kernel
theorem dX9_pass_44 : decode cX9_pass 44 = .ok (.invokevirtual 185, 3) := by decide +kernel
theorem dX9_pass_47 : decode cX9_pass 47 = .ok (.ifCond .eq 5, 3) := by decide +kernel
theorem dX9_pass_50 : decode cX9_pass 50 = .ok (.iconst 0, 1) := by decide +kernel
theorem dX9_pass_51 : decode cX9_pass 51 = .ok (.ireturn, 1) := by decide +kernel
theorem dX9_pass_52 : decode cX9_pass 52 = .ok (.aload_n 0, 1) := by decide +kernel
theorem dX9_pass_53 : decode cX9_pass 53 = .ok (.iload_n 1, 1) := by decide +kernel
theorem dX9_pass_54 : decode cX9_pass 54 = .ok (.aload_n 0, 1) := by decide +kernel
theorem dX9_pass_55 : decode cX9_pass 55 = .ok (.getfield 47, 3) := by decide +kernel
theorem dX9_pass_58 : decode cX9_pass 58 = .ok (.iload_n 1, 1) := by decide +kernel
theorem dX9_pass_59 : decode cX9_pass 59 = .ok (.iaload, 1) := by decide +kernel
theorem dX9_pass_60 : decode cX9_pass 60 = .ok (.invokevirtual 226, 3) := by decide +kernel
theorem dX9_pass_63 : decode cX9_pass 63 = .ok (.istore 4, 2) := by decide +kernel
theorem dX9_pass_65 : decode cX9_pass 65 = .ok (.aload_n 0, 1) := by decide +kernel
theorem dX9_pass_66 : decode cX9_pass 66 = .ok (.iload_n 1, 1) := by decide +kernel
theorem dX9_pass_67 : decode cX9_pass 67 = .ok (.iload_n 2, 1) := by decide +kernel
theorem dX9_pass_68 : decode cX9_pass 68 = .ok (.invokevirtual 251, 3) := by decide +kernel
theorem dX9_pass_71 : decode cX9_pass 71 = .ok (.ifCond .eq 19, 3) := by decide +kernel
theorem dX9_pass_74 : decode cX9_pass 74 = .ok (.aload_n 0, 1) := by decide +kernel
theorem dX9_pass_75 : decode cX9_pass 75 = .ok (.iload_n 1, 1) := by decide +kernel
theorem dX9_pass_76 : decode cX9_pass 76 = .ok (.iconst 1, 1) := by decide +kernel
theorem dX9_pass_77 : decode cX9_pass 77 = .ok (.iload 4, 2) := by decide +kernel
theorem dX9_pass_79 : decode cX9_pass 79 = .ok (.isub, 1) := by decide +kernel
theorem dX9_pass_80 : decode cX9_pass 80 = .ok (.invokevirtual 254, 3) := by decide +kernel
theorem dX9_pass_83 : decode cX9_pass 83 = .ok (.aload_n 0, 1) := by decide +kernel
theorem dX9_pass_84 : decode cX9_pass 84 = .ok (.getfield 34, 3) := by decide +kernel
theorem dX9_pass_87 : decode cX9_pass 87 = .ok (.iload_n 1, 1) := by decide +kernel
theorem dX9_pass_88 : decode cX9_pass 88 = .ok (.iaload, 1) := by decide +kernel
theorem dX9_pass_89 : decode cX9_pass 89 = .ok (.ireturn, 1) := by decide +kernel
theorem dX9_pass_90 : decode cX9_pass 90 = .ok (.aload_n 0, 1) := by decide +kernel
theorem dX9_pass_91 : decode cX9_pass 91 = .ok (.getfield 44, 3) := by decide +kernel
theorem dX9_pass_94 : decode cX9_pass 94 = .ok (.iload_n 1, 1) := by decide +kernel
theorem dX9_pass_95 : decode cX9_pass 95 = .ok (.aload_n 0, 1) := by decide +kernel
theorem dX9_pass_96 : decode cX9_pass 96 = .ok (.aload_n 0, 1) := by decide +kernel
theorem dX9_pass_97 : decode cX9_pass 97 = .ok (.getfield 65, 3) := by decide +kernel
theorem dX9_pass_100 : decode cX9_pass 100 = .ok (.aload_n 0, 1) := by decide +kernel
theorem dX9_pass_101 : decode cX9_pass 101 = .ok (.getfield 44, 3) := by decide +kernel
theorem dX9_pass_104 : decode cX9_pass 104 = .ok (.iload_n 1, 1) := by decide +kernel
theorem dX9_pass_105 : decode cX9_pass 105 = .ok (.iaload, 1) := by decide +kernel
theorem dX9_pass_106 : decode cX9_pass 106 = .ok (.laload, 1) := by decide +kernel
theorem dX9_pass_107 : decode cX9_pass 107 = .ok (.aload_n 0, 1) := by decide +kernel
theorem dX9_pass_108 : decode cX9_pass 108 = .ok (.getfield 69, 3) := by decide +kernel
theorem dX9_pass_111 : decode cX9_pass 111 = .ok (.aload_n 0, 1) := by decide +kernel
theorem dX9_pass_112 : decode cX9_pass 112 = .ok (.getfield 44, 3) := by decide +kernel
theorem dX9_pass_115 : decode cX9_pass 115 = .ok (.iload_n 1, 1) := by decide +kernel
theorem dX9_pass_116 : decode cX9_pass 116 = .ok (.iaload, 1) := by decide +kernel
theorem dX9_pass_117 : decode cX9_pass 117 = .ok (.laload, 1) := by decide +kernel
theorem dX9_pass_118 : decode cX9_pass 118 = .ok (.aload_n 0, 1) := by decide +kernel
theorem dX9_pass_119 : decode cX9_pass 119 = .ok (.getfield 44, 3) := by decide +kernel
theorem dX9_pass_122 : decode cX9_pass 122 = .ok (.iload_n 1, 1) := by decide +kernel
theorem dX9_pass_123 : decode cX9_pass 123 = .ok (.iaload, 1) := by decide +kernel
theorem dX9_pass_124 : decode cX9_pass 124 = .ok (.invokevirtual 214, 3) := by decide +kernel
theorem dX9_pass_127 : decode cX9_pass 127 = .ok (.iastore, 1) := by decide +kernel
theorem dX9_pass_128 : decode cX9_pass 128 = .ok (.aload_n 0, 1) := by decide +kernel
theorem dX9_pass_129 : decode cX9_pass 129 = .ok (.getfield 47, 3) := by decide +kernel
theorem dX9_pass_132 : decode cX9_pass 132 = .ok (.iload_n 1, 1) := by decide +kernel
theorem dX9_pass_133 : decode cX9_pass 133 = .ok (.dup2, 1) := by decide +kernel
theorem dX9_pass_134 : decode cX9_pass 134 = .ok (.iaload, 1) := by decide +kernel
theorem dX9_pass_135 : decode cX9_pass 135 = .ok (.iconst 1, 1) := by decide +kernel
theorem dX9_pass_136 : decode cX9_pass 136 = .ok (.iadd, 1) := by decide +kernel
theorem dX9_pass_137 : decode cX9_pass 137 = .ok (.iastore, 1) := by decide +kernel
theorem dX9_pass_138 : decode cX9_pass 138 = .ok (.aload_n 0, 1) := by decide +kernel
theorem dX9_pass_139 : decode cX9_pass 139 = .ok (.getfield 50, 3) := by decide +kernel
theorem dX9_pass_142 : decode cX9_pass 142 = .ok (.iload_n 1, 1) := by decide +kernel
theorem dX9_pass_143 : decode cX9_pass 143 = .ok (.dup2, 1) := by decide +kernel
theorem dX9_pass_144 : decode cX9_pass 144 = .ok (.iaload, 1) := by decide +kernel
theorem dX9_pass_145 : decode cX9_pass 145 = .ok (.iconst 1, 1) := by decide +kernel
theorem dX9_pass_146 : decode cX9_pass 146 = .ok (.iadd, 1) := by decide +kernel
theorem dX9_pass_147 : decode cX9_pass 147 = .ok (.iastore, 1) := by decide +kernel
theorem dX9_pass_148 : decode cX9_pass 148 = .ok (.aload_n 0, 1) := by decide +kernel
theorem dX9_pass_149 : decode cX9_pass 149 = .ok (.getfield 50, 3) := by decide +kernel
theorem dX9_pass_152 : decode cX9_pass 152 = .ok (.iload_n 1, 1) := by decide +kernel
theorem dX9_pass_153 : decode cX9_pass 153 = .ok (.iaload, 1) := by decide +kernel
theorem dX9_pass_154 : decode cX9_pass 154 = .ok (.iconst 2, 1) := by decide +kernel
theorem dX9_pass_155 : decode cX9_pass 155 = .ok (.if_icmp .ne 21, 3) := by decide +kernel
theorem dX9_pass_158 : decode cX9_pass 158 = .ok (.aload_n 0, 1) := by decide +kernel
theorem dX9_pass_159 : decode cX9_pass 159 = .ok (.iload_n 1, 1) := by decide +kernel
theorem dX9_pass_160 : decode cX9_pass 160 = .ok (.aload_n 0, 1) := by decide +kernel
theorem dX9_pass_161 : decode cX9_pass 161 = .ok (.iload_n 1, 1) := by decide +kernel
theorem dX9_pass_162 : decode cX9_pass 162 = .ok (.invokevirtual 258, 3) := by decide +kernel
theorem dX9_pass_165 : decode cX9_pass 165 = .ok (.ifCond .le 7, 3) := by decide +kernel
theorem dX9_pass_168 : decode cX9_pass 168 = .ok (.iconst 0, 1) := by decide +kernel
theorem dX9_pass_169 : decode cX9_pass 169 = .ok (.goto 4, 3) := by decide +kernel
theorem dX9_pass_172 : decode cX9_pass 172 = .ok (.iconst 1, 1) := by decide +kernel
theorem dX9_pass_173 : decode cX9_pass 173 = .ok (.invokevirtual 254, 3) := by decide +kernel
theorem dX9_pass_176 : decode cX9_pass 176 = .ok (.aload_n 0, 1) := by decide +kernel
theorem dX9_pass_177 : decode cX9_pass 177 = .ok (.getfield 34, 3) := by decide +kernel
theorem dX9_pass_180 : decode cX9_pass 180 = .ok (.iload_n 1, 1) := by decide +kernel
theorem dX9_pass_181 : decode cX9_pass 181 = .ok (.iaload, 1) := by decide +kernel
theorem dX9_pass_182 : decode cX9_pass 182 = .ok (.ireturn, 1) := by decide +kernel
theorem dX9_resign_0 : decode cX9_resign 0 = .ok (.aload_n 0, 1) := by decide +kernel
theorem dX9_resign_1 : decode cX9_resign 1 = .ok (.iload_n 1, 1) := by decide +kernel
theorem dX9_resign_2 : decode cX9_resign 2 = .ok (.invokevirtual 241, 3) := by decide +kernel
theorem dX9_resign_5 : decode cX9_resign 5 = .ok (.istore_n 2, 1) := by decide +kernel
theorem dX9_resign_6 : decode cX9_resign 6 = .ok (.aload_n 0, 1) := by decide +kernel
theorem dX9_resign_7 : decode cX9_resign 7 = .ok (.iload_n 2, 1) := by decide +kernel
theorem dX9_resign_8 : decode cX9_resign 8 = .ok (.ifCond .ne 7, 3) := by decide +kernel
theorem dX9_resign_11 : decode cX9_resign 11 = .ok (.iconst 1, 1) := by decide +kernel
theorem dX9_resign_12 : decode cX9_resign 12 = .ok (.goto 17, 3) := by decide +kernel
theorem dX9_resign_15 : decode cX9_resign 15 = .ok (.aload_n 0, 1) := by decide +kernel
theorem dX9_resign_16 : decode cX9_resign 16 = .ok (.getfield 34, 3) := by decide +kernel
theorem dX9_resign_19 : decode cX9_resign 19 = .ok (.iload_n 1, 1) := by decide +kernel
theorem dX9_resign_20 : decode cX9_resign 20 = .ok (.iaload, 1) := by decide +kernel
theorem dX9_resign_21 : decode cX9_resign 21 = .ok (.ifCond .ne 7, 3) := by decide +kernel
theorem dX9_resign_24 : decode cX9_resign 24 = .ok (.iconst 0, 1) := by decide +kernel
theorem dX9_resign_25 : decode cX9_resign 25 = .ok (.goto 4, 3) := by decide +kernel
theorem dX9_resign_28 : decode cX9_resign 28 = .ok (.iconst 2, 1) := by decide +kernel
theorem dX9_resign_29 : decode cX9_resign 29 = .ok (.invokevirtual 185, 3) := by decide +kernel
theorem dX9_resign_32 : decode cX9_resign 32 = .ok (.ifCond .eq 5, 3) := by decide +kernel
theorem dX9_resign_35 : decode cX9_resign 35 = .ok (.iconst 0, 1) := by decide +kernel
theorem dX9_resign_36 : decode cX9_resign 36 = .ok (.ireturn, 1) := by decide +kernel
theorem dX9_resign_37 : decode cX9_resign 37 = .ok (.aload_n 0, 1) := by decide +kernel
theorem dX9_resign_38 : decode cX9_resign 38 = .ok (.iload_n 1, 1) := by decide +kernel
theorem dX9_resign_39 : decode cX9_resign 39 = .ok (.iconst 1, 1) := by decide +kernel
theorem dX9_resign_40 : decode cX9_resign 40 = .ok (.aload_n 0, 1) := by decide +kernel
theorem dX9_resign_41 : decode cX9_resign 41 = .ok (.iload_n 1, 1) := by decide +kernel
theorem dX9_resign_42 : decode cX9_resign 42 = .ok (.aload_n 0, 1) := by decide +kernel
theorem dX9_resign_43 : decode cX9_resign 43 = .ok (.getfield 47, 3) := by decide +kernel
theorem dX9_resign_46 : decode cX9_resign 46 = .ok (.iload_n 1, 1) := by decide +kernel
theorem dX9_resign_47 : decode cX9_resign 47 = .ok (.iaload, 1) := by decide +kernel
theorem dX9_resign_48 : decode cX9_resign 48 = .ok (.invokevirtual 226, 3) := by decide +kernel
theorem dX9_resign_51 : decode cX9_resign 51 = .ok (.isub, 1) := by decide +kernel
theorem dX9_resign_52 : decode cX9_resign 52 = .ok (.invokevirtual 254, 3) := by decide +kernel
theorem dX9_resign_55 : decode cX9_resign 55 = .ok (.aload_n 0, 1) := by decide +kernel
theorem dX9_resign_56 : decode cX9_resign 56 = .ok (.getfield 34, 3) := by decide +kernel
theorem dX9_resign_59 : decode cX9_resign 59 = .ok (.iload_n 1, 1) := by decide +kernel
theorem dX9_resign_60 : decode cX9_resign 60 = .ok (.iaload, 1) := by decide +kernel
theorem dX9_resign_61 : decode cX9_resign 61 = .ok (.ireturn, 1) := by decide +kernel
theorem dX9_stateOf_0 : decode cX9_stateOf 0 = .ok (.aload_n 0, 1) := by decide +kernel
theorem dX9_stateOf_1 : decode cX9_stateOf 1 = .ok (.getfield 34, 3) := by decide +kernel
theorem dX9_stateOf_4 : decode cX9_stateOf 4 = .ok (.iload_n 1, 1) := by decide +kernel
theorem dX9_stateOf_5 : decode cX9_stateOf 5 = .ok (.iaload, 1) := by decide +kernel
theorem dX9_stateOf_6 : decode cX9_stateOf 6 = .ok (.aload_n 0, 1) := by decide +kernel
theorem dX9_stateOf_7 : decode cX9_stateOf 7 = .ok (.getfield 37, 3) := by decide +kernel
theorem dX9_stateOf_10 : decode cX9_stateOf 10 = .ok (.iload_n 1, 1) := by decide +kernel
theorem dX9_stateOf_11 : decode cX9_stateOf 11 = .ok (.baload, 1) := by decide +kernel
theorem dX9_stateOf_12 : decode cX9_stateOf 12 = .ok (.ifCond .eq 8, 3) := by decide +kernel
theorem dX9_stateOf_15 : decode cX9_stateOf 15 = .ok (.bipush 10, 2) := by decide +kernel
theorem dX9_stateOf_17 : decode cX9_stateOf 17 = .ok (.goto 4, 3) := by decide +kernel
theorem dX9_stateOf_20 : decode cX9_stateOf 20 = .ok (.iconst 0, 1) := by decide +kernel
theorem dX9_stateOf_21 : decode cX9_stateOf 21 = .ok (.iadd, 1) := by decide +kernel
theorem dX9_stateOf_22 : decode cX9_stateOf 22 = .ok (.ireturn, 1) := by decide +kernel
theorem dX9_state_0 : decode cX9_state 0 = .ok (.aload_n 0, 1) := by decide +kernel
theorem dX9_state_1 : decode cX9_state 1 = .ok (.aload_n 0, 1) := by decide +kernel
theorem dX9_state_2 : decode cX9_state 2 = .ok (.iload_n 1, 1) := by decide +kernel
theorem dX9_state_3 : decode cX9_state 3 = .ok (.invokevirtual 241, 3) := by decide +kernel
theorem dX9_state_6 : decode cX9_state 6 = .ok (.ifCond .eq 7, 3) := by decide +kernel
theorem dX9_state_9 : decode cX9_state 9 = .ok (.iconst 0, 1) := by decide +kernel
theorem dX9_state_10 : decode cX9_state 10 = .ok (.goto 4, 3) := by decide +kernel
theorem dX9_state_13 : decode cX9_state 13 = .ok (.iconst 1, 1) := by decide +kernel
theorem dX9_state_14 : decode cX9_state 14 = .ok (.invokevirtual 185, 3) := by decide +kernel
theorem dX9_state_17 : decode cX9_state 17 = .ok (.ifCond .eq 7, 3) := by decide +kernel
theorem dX9_state_20 : decode cX9_state 20 = .ok (.iconst 0, 1) := by decide +kernel
theorem dX9_state_21 : decode cX9_state 21 = .ok (.goto 8, 3) := by decide +kernel
theorem dX9_state_24 : decode cX9_state 24 = .ok (.aload_n 0, 1) := by decide +kernel
theorem dX9_state_25 : decode cX9_state 25 = .ok (.iload_n 1, 1) := by decide +kernel
theorem dX9_state_26 : decode cX9_state 26 = .ok (.invokevirtual 262, 3) := by decide +kernel
theorem dX9_state_29 : decode cX9_state 29 = .ok (.ireturn, 1) := by decide +kernel
theorem dX9_handicap_0 : decode cX9_handicap 0 = .ok (.aload_n 0, 1) := by decide +kernel
theorem dX9_handicap_1 : decode cX9_handicap 1 = .ok (.aload_n 0, 1) := by decide +kernel
theorem dX9_handicap_2 : decode cX9_handicap 2 = .ok (.iload_n 1, 1) := by decide +kernel
theorem dX9_handicap_3 : decode cX9_handicap 3 = .ok (.invokevirtual 241, 3) := by decide +kernel
theorem dX9_handicap_6 : decode cX9_handicap 6 = .ok (.ifCond .eq 7, 3) := by decide +kernel
theorem dX9_handicap_9 : decode cX9_handicap 9 = .ok (.iconst 0, 1) := by decide +kernel
theorem dX9_handicap_10 : decode cX9_handicap 10 = .ok (.goto 4, 3) := by decide +kernel
theorem dX9_handicap_13 : decode cX9_handicap 13 = .ok (.iconst 1, 1) := by decide +kernel
theorem dX9_handicap_14 : decode cX9_handicap 14 = .ok (.invokevirtual 185, 3) := by decide +kernel
theorem dX9_handicap_17 : decode cX9_handicap 17 = .ok (.ifCond .eq 7, 3) := by decide +kernel
theorem dX9_handicap_20 : decode cX9_handicap 20 = .ok (.iconst 0, 1) := by decide +kernel
theorem dX9_handicap_21 : decode cX9_handicap 21 = .ok (.goto 29, 3) := by decide +kernel
theorem dX9_handicap_24 : decode cX9_handicap 24 = .ok (.bipush 100, 2) := by decide +kernel
theorem dX9_handicap_26 : decode cX9_handicap 26 = .ok (.aload_n 0, 1) := by decide +kernel
theorem dX9_handicap_27 : decode cX9_handicap 27 = .ok (.getfield 25, 3) := by decide +kernel
theorem dX9_handicap_30 : decode cX9_handicap 30 = .ok (.iload_n 1, 1) := by decide +kernel
theorem dX9_handicap_31 : decode cX9_handicap 31 = .ok (.iaload, 1) := by decide +kernel
theorem dX9_handicap_32 : decode cX9_handicap 32 = .ok (.imul, 1) := by decide +kernel
theorem dX9_handicap_33 : decode cX9_handicap 33 = .ok (.bipush 10, 2) := by decide +kernel
theorem dX9_handicap_35 : decode cX9_handicap 35 = .ok (.aload_n 0, 1) := by decide +kernel
theorem dX9_handicap_36 : decode cX9_handicap 36 = .ok (.getfield 28, 3) := by decide +kernel
theorem dX9_handicap_39 : decode cX9_handicap 39 = .ok (.iload_n 1, 1) := by decide +kernel
theorem dX9_handicap_40 : decode cX9_handicap 40 = .ok (.iaload, 1) := by decide +kernel
theorem dX9_handicap_41 : decode cX9_handicap 41 = .ok (.imul, 1) := by decide +kernel
theorem dX9_handicap_42 : decode cX9_handicap 42 = .ok (.iadd, 1) := by decide +kernel
theorem dX9_handicap_43 : decode cX9_handicap 43 = .ok (.aload_n 0, 1) := by decide +kernel
theorem dX9_handicap_44 : decode cX9_handicap 44 = .ok (.getfield 31, 3) := by decide +kernel
theorem dX9_handicap_47 : decode cX9_handicap 47 = .ok (.iload_n 1, 1) := by decide +kernel
theorem dX9_handicap_48 : decode cX9_handicap 48 = .ok (.iaload, 1) := by decide +kernel
theorem dX9_handicap_49 : decode cX9_handicap 49 = .ok (.iadd, 1) := by decide +kernel
theorem dX9_handicap_50 : decode cX9_handicap 50 = .ok (.ireturn, 1) := by decide +kernel
theorem dX9_sign_0 : decode cX9_sign 0 = .ok (.aload_n 0, 1) := by decide +kernel
theorem dX9_sign_1 : decode cX9_sign 1 = .ok (.aload_n 0, 1) := by decide +kernel
theorem dX9_sign_2 : decode cX9_sign 2 = .ok (.iload_n 1, 1) := by decide +kernel
theorem dX9_sign_3 : decode cX9_sign 3 = .ok (.invokevirtual 241, 3) := by decide +kernel
theorem dX9_sign_6 : decode cX9_sign 6 = .ok (.ifCond .eq 14, 3) := by decide +kernel
theorem dX9_sign_9 : decode cX9_sign 9 = .ok (.iload_n 2, 1) := by decide +kernel
theorem dX9_sign_10 : decode cX9_sign 10 = .ok (.invokestatic 244, 3) := by decide +kernel
theorem dX9_sign_13 : decode cX9_sign 13 = .ok (.ifCond .eq 7, 3) := by decide +kernel
theorem dX9_sign_16 : decode cX9_sign 16 = .ok (.iconst 0, 1) := by decide +kernel
theorem dX9_sign_17 : decode cX9_sign 17 = .ok (.goto 4, 3) := by decide +kernel
theorem dX9_sign_20 : decode cX9_sign 20 = .ok (.iconst 1, 1) := by decide +kernel
theorem dX9_sign_21 : decode cX9_sign 21 = .ok (.invokevirtual 185, 3) := by decide +kernel
theorem dX9_sign_24 : decode cX9_sign 24 = .ok (.ifCond .eq 6, 3) := by decide +kernel
theorem dX9_sign_27 : decode cX9_sign 27 = .ok (.bipush 32, 2) := by decide +kernel
theorem dX9_sign_29 : decode cX9_sign 29 = .ok (.ireturn, 1) := by decide +kernel
theorem dX9_sign_30 : decode cX9_sign 30 = .ok (.aload_n 0, 1) := by decide +kernel
theorem dX9_sign_31 : decode cX9_sign 31 = .ok (.getfield 65, 3) := by decide +kernel
theorem dX9_sign_34 : decode cX9_sign 34 = .ok (.aload_n 0, 1) := by decide +kernel
theorem dX9_sign_35 : decode cX9_sign 35 = .ok (.getfield 44, 3) := by decide +kernel
theorem dX9_sign_38 : decode cX9_sign 38 = .ok (.iload_n 1, 1) := by decide +kernel
theorem dX9_sign_39 : decode cX9_sign 39 = .ok (.iaload, 1) := by decide +kernel
theorem dX9_sign_40 : decode cX9_sign 40 = .ok (.laload, 1) := by decide +kernel
theorem dX9_sign_41 : decode cX9_sign 41 = .ok (.iload_n 2, 1) := by decide +kernel
theorem dX9_sign_42 : decode cX9_sign 42 = .ok (.invokestatic 160, 3) := by decide +kernel
theorem dX9_sign_45 : decode cX9_sign 45 = .ok (.land, 1) := by decide +kernel
theorem dX9_sign_46 : decode cX9_sign 46 = .ok (.lconst 0, 1) := by decide +kernel
theorem dX9_sign_47 : decode cX9_sign 47 = .ok (.lcmp, 1) := by decide +kernel
theorem dX9_sign_48 : decode cX9_sign 48 = .ok (.ifCond .eq 8, 3) := by decide +kernel
theorem dX9_sign_51 : decode cX9_sign 51 = .ok (.bipush 88, 2) := by decide +kernel
theorem dX9_sign_53 : decode cX9_sign 53 = .ok (.goto 31, 3) := by decide +kernel
theorem dX9_sign_56 : decode cX9_sign 56 = .ok (.aload_n 0, 1) := by decide +kernel
theorem dX9_sign_57 : decode cX9_sign 57 = .ok (.getfield 69, 3) := by decide +kernel
theorem dX9_sign_60 : decode cX9_sign 60 = .ok (.aload_n 0, 1) := by decide +kernel
theorem dX9_sign_61 : decode cX9_sign 61 = .ok (.getfield 44, 3) := by decide +kernel
theorem dX9_sign_64 : decode cX9_sign 64 = .ok (.iload_n 1, 1) := by decide +kernel
theorem dX9_sign_65 : decode cX9_sign 65 = .ok (.iaload, 1) := by decide +kernel
theorem dX9_sign_66 : decode cX9_sign 66 = .ok (.laload, 1) := by decide +kernel
theorem dX9_sign_67 : decode cX9_sign 67 = .ok (.iload_n 2, 1) := by decide +kernel
theorem dX9_sign_68 : decode cX9_sign 68 = .ok (.invokestatic 160, 3) := by decide +kernel
theorem dX9_sign_71 : decode cX9_sign 71 = .ok (.land, 1) := by decide +kernel
theorem dX9_sign_72 : decode cX9_sign 72 = .ok (.lconst 0, 1) := by decide +kernel
theorem dX9_sign_73 : decode cX9_sign 73 = .ok (.lcmp, 1) := by decide +kernel
theorem dX9_sign_74 : decode cX9_sign 74 = .ok (.ifCond .eq 8, 3) := by decide +kernel
theorem dX9_sign_77 : decode cX9_sign 77 = .ok (.bipush 79, 2) := by decide +kernel
theorem dX9_sign_79 : decode cX9_sign 79 = .ok (.goto 5, 3) := by decide +kernel
theorem dX9_sign_82 : decode cX9_sign 82 = .ok (.bipush 46, 2) := by decide +kernel
theorem dX9_sign_84 : decode cX9_sign 84 = .ok (.ireturn, 1) := by decide +kernel
theorem dX9_clock_0 : decode cX9_clock 0 = .ok (.aload_n 0, 1) := by decide +kernel
theorem dX9_clock_1 : decode cX9_clock 1 = .ok (.iload_n 1, 1) := by decide +kernel
theorem dX9_clock_2 : decode cX9_clock 2 = .ok (.invokevirtual 241, 3) := by decide +kernel
theorem dX9_clock_5 : decode cX9_clock 5 = .ok (.ifCond .eq 16, 3) := by decide +kernel
theorem dX9_clock_8 : decode cX9_clock 8 = .ok (.iload_n 2, 1) := by decide +kernel
theorem dX9_clock_9 : decode cX9_clock 9 = .ok (.iconst 0, 1) := by decide +kernel
theorem dX9_clock_10 : decode cX9_clock 10 = .ok (.iconst 1, 1) := by decide +kernel
theorem dX9_clock_11 : decode cX9_clock 11 = .ok (.invokestatic 133, 3) := by decide +kernel
theorem dX9_clock_14 : decode cX9_clock 14 = .ok (.ifCond .eq 7, 3) := by decide +kernel
theorem dX9_clock_17 : decode cX9_clock 17 = .ok (.iconst 1, 1) := by decide +kernel
theorem dX9_clock_18 : decode cX9_clock 18 = .ok (.goto 4, 3) := by decide +kernel
theorem dX9_clock_21 : decode cX9_clock 21 = .ok (.iconst 0, 1) := by decide +kernel
theorem dX9_clock_22 : decode cX9_clock 22 = .ok (.istore_n 3, 1) := by decide +kernel
theorem dX9_clock_23 : decode cX9_clock 23 = .ok (.aload_n 0, 1) := by decide +kernel
theorem dX9_clock_24 : decode cX9_clock 24 = .ok (.iload_n 3, 1) := by decide +kernel
theorem dX9_clock_25 : decode cX9_clock 25 = .ok (.ifCond .eq 7, 3) := by decide +kernel
theorem dX9_clock_28 : decode cX9_clock 28 = .ok (.iconst 0, 1) := by decide +kernel
theorem dX9_clock_29 : decode cX9_clock 29 = .ok (.goto 4, 3) := by decide +kernel
theorem dX9_clock_32 : decode cX9_clock 32 = .ok (.iconst 1, 1) := by decide +kernel
theorem dX9_clock_33 : decode cX9_clock 33 = .ok (.invokevirtual 185, 3) := by decide +kernel
theorem dX9_clock_36 : decode cX9_clock 36 = .ok (.ifCond .eq 7, 3) := by decide +kernel
theorem dX9_clock_39 : decode cX9_clock 39 = .ok (.iconst 0, 1) := by decide +kernel
theorem dX9_clock_40 : decode cX9_clock 40 = .ok (.goto 27, 3) := by decide +kernel
theorem dX9_clock_43 : decode cX9_clock 43 = .ok (.bipush 10, 2) := by decide +kernel
theorem dX9_clock_45 : decode cX9_clock 45 = .ok (.aload_n 0, 1) := by decide +kernel
theorem dX9_clock_46 : decode cX9_clock 46 = .ok (.getfield 53, 3) := by decide +kernel
theorem dX9_clock_49 : decode cX9_clock 49 = .ok (.iconst 2, 1) := by decide +kernel
theorem dX9_clock_50 : decode cX9_clock 50 = .ok (.iload_n 1, 1) := by decide +kernel
theorem dX9_clock_51 : decode cX9_clock 51 = .ok (.imul, 1) := by decide +kernel
theorem dX9_clock_52 : decode cX9_clock 52 = .ok (.iload_n 2, 1) := by decide +kernel
theorem dX9_clock_53 : decode cX9_clock 53 = .ok (.iadd, 1) := by decide +kernel
theorem dX9_clock_54 : decode cX9_clock 54 = .ok (.iaload, 1) := by decide +kernel
theorem dX9_clock_55 : decode cX9_clock 55 = .ok (.imul, 1) := by decide +kernel
theorem dX9_clock_56 : decode cX9_clock 56 = .ok (.aload_n 0, 1) := by decide +kernel
theorem dX9_clock_57 : decode cX9_clock 57 = .ok (.getfield 56, 3) := by decide +kernel
theorem dX9_clock_60 : decode cX9_clock 60 = .ok (.iconst 2, 1) := by decide +kernel
theorem dX9_clock_61 : decode cX9_clock 61 = .ok (.iload_n 1, 1) := by decide +kernel
theorem dX9_clock_62 : decode cX9_clock 62 = .ok (.imul, 1) := by decide +kernel
theorem dX9_clock_63 : decode cX9_clock 63 = .ok (.iload_n 2, 1) := by decide +kernel
theorem dX9_clock_64 : decode cX9_clock 64 = .ok (.iadd, 1) := by decide +kernel
theorem dX9_clock_65 : decode cX9_clock 65 = .ok (.iaload, 1) := by decide +kernel
theorem dX9_clock_66 : decode cX9_clock 66 = .ok (.iadd, 1) := by decide +kernel
theorem dX9_clock_67 : decode cX9_clock 67 = .ok (.ireturn, 1) := by decide +kernel
theorem dX9_scoreOf_0 : decode cX9_scoreOf 0 = .ok (.aload_n 0, 1) := by decide +kernel
theorem dX9_scoreOf_1 : decode cX9_scoreOf 1 = .ok (.getfield 65, 3) := by decide +kernel
theorem dX9_scoreOf_4 : decode cX9_scoreOf 4 = .ok (.aload_n 0, 1) := by decide +kernel
theorem dX9_scoreOf_5 : decode cX9_scoreOf 5 = .ok (.getfield 44, 3) := by decide +kernel
theorem dX9_scoreOf_8 : decode cX9_scoreOf 8 = .ok (.iload_n 1, 1) := by decide +kernel
theorem dX9_scoreOf_9 : decode cX9_scoreOf 9 = .ok (.iaload, 1) := by decide +kernel
theorem dX9_scoreOf_10 : decode cX9_scoreOf 10 = .ok (.laload, 1) := by decide +kernel
theorem dX9_scoreOf_11 : decode cX9_scoreOf 11 = .ok (.lstore_n 2, 1) := by decide +kernel
theorem dX9_scoreOf_12 : decode cX9_scoreOf 12 = .ok (.aload_n 0, 1) := by decide +kernel
theorem dX9_scoreOf_13 : decode cX9_scoreOf 13 = .ok (.getfield 69, 3) := by decide +kernel
theorem dX9_scoreOf_16 : decode cX9_scoreOf 16 = .ok (.aload_n 0, 1) := by decide +kernel
theorem dX9_scoreOf_17 : decode cX9_scoreOf 17 = .ok (.getfield 44, 3) := by decide +kernel
theorem dX9_scoreOf_20 : decode cX9_scoreOf 20 = .ok (.iload_n 1, 1) := by decide +kernel
theorem dX9_scoreOf_21 : decode cX9_scoreOf 21 = .ok (.iaload, 1) := by decide +kernel
theorem dX9_scoreOf_22 : decode cX9_scoreOf 22 = .ok (.laload, 1) := by decide +kernel
theorem dX9_scoreOf_23 : decode cX9_scoreOf 23 = .ok (.lstore 4, 2) := by decide +kernel
theorem dX9_scoreOf_25 : decode cX9_scoreOf 25 = .ok (.ldc2_w 144, 3) := by decide +kernel
theorem dX9_scoreOf_28 : decode cX9_scoreOf 28 = .ok (.lload_n 2, 1) := by decide +kernel
theorem dX9_scoreOf_29 : decode cX9_scoreOf 29 = .ok (.lload 4, 2) := by decide +kernel
theorem dX9_scoreOf_31 : decode cX9_scoreOf 31 = .ok (.lor, 1) := by decide +kernel
theorem dX9_scoreOf_32 : decode cX9_scoreOf 32 = .ok (.ldc2_w 150, 3) := by decide +kernel
theorem dX9_scoreOf_35 : decode cX9_scoreOf 35 = .ok (.lxor, 1) := by decide +kernel
theorem dX9_scoreOf_36 : decode cX9_scoreOf 36 = .ok (.land, 1) := by decide +kernel
theorem dX9_scoreOf_37 : decode cX9_scoreOf 37 = .ok (.lstore 6, 2) := by decide +kernel
theorem dX9_scoreOf_39 : decode cX9_scoreOf 39 = .ok (.lload_n 2, 1) := by decide +kernel
theorem dX9_scoreOf_40 : decode cX9_scoreOf 40 = .ok (.invokestatic 167, 3) := by decide +kernel
theorem dX9_scoreOf_43 : decode cX9_scoreOf 43 = .ok (.lload 4, 2) := by decide +kernel
theorem dX9_scoreOf_45 : decode cX9_scoreOf 45 = .ok (.invokestatic 167, 3) := by decide +kernel
theorem dX9_scoreOf_48 : decode cX9_scoreOf 48 = .ok (.isub, 1) := by decide +kernel
theorem dX9_scoreOf_49 : decode cX9_scoreOf 49 = .ok (.aload_n 0, 1) := by decide +kernel
theorem dX9_scoreOf_50 : decode cX9_scoreOf 50 = .ok (.getfield 31, 3) := by decide +kernel
theorem dX9_scoreOf_53 : decode cX9_scoreOf 53 = .ok (.iload_n 1, 1) := by decide +kernel
theorem dX9_scoreOf_54 : decode cX9_scoreOf 54 = .ok (.iaload, 1) := by decide +kernel
theorem dX9_scoreOf_55 : decode cX9_scoreOf 55 = .ok (.ifCond .ne 8, 3) := by decide +kernel
theorem dX9_scoreOf_58 : decode cX9_scoreOf 58 = .ok (.bipush 6, 2) := by decide +kernel
theorem dX9_scoreOf_60 : decode cX9_scoreOf 60 = .ok (.goto 4, 3) := by decide +kernel
theorem dX9_scoreOf_63 : decode cX9_scoreOf 63 = .ok (.iconst 0, 1) := by decide +kernel
theorem dX9_scoreOf_64 : decode cX9_scoreOf 64 = .ok (.isub, 1) := by decide +kernel
theorem dX9_scoreOf_65 : decode cX9_scoreOf 65 = .ok (.istore 8, 2) := by decide +kernel
theorem dX9_scoreOf_67 : decode cX9_scoreOf 67 = .ok (.lload 6, 2) := by decide +kernel
theorem dX9_scoreOf_69 : decode cX9_scoreOf 69 = .ok (.lstore 9, 2) := by decide +kernel
theorem dX9_scoreOf_71 : decode cX9_scoreOf 71 = .ok (.lload 9, 2) := by decide +kernel
theorem dX9_scoreOf_73 : decode cX9_scoreOf 73 = .ok (.lconst 0, 1) := by decide +kernel
theorem dX9_scoreOf_74 : decode cX9_scoreOf 74 = .ok (.lcmp, 1) := by decide +kernel
theorem dX9_scoreOf_75 : decode cX9_scoreOf 75 = .ok (.ifCond .eq 112, 3) := by decide +kernel
theorem dX9_scoreOf_78 : decode cX9_scoreOf 78 = .ok (.lload 9, 2) := by decide +kernel
theorem dX9_scoreOf_80 : decode cX9_scoreOf 80 = .ok (.lload 9, 2) := by decide +kernel
theorem dX9_scoreOf_82 : decode cX9_scoreOf 82 = .ok (.lneg, 1) := by decide +kernel
theorem dX9_scoreOf_83 : decode cX9_scoreOf 83 = .ok (.land, 1) := by decide +kernel
theorem dX9_scoreOf_84 : decode cX9_scoreOf 84 = .ok (.lload 6, 2) := by decide +kernel
theorem dX9_scoreOf_86 : decode cX9_scoreOf 86 = .ok (.invokestatic 152, 3) := by decide +kernel
theorem dX9_scoreOf_89 : decode cX9_scoreOf 89 = .ok (.lstore 11, 2) := by decide +kernel
theorem dX9_scoreOf_91 : decode cX9_scoreOf 91 = .ok (.lload 9, 2) := by decide +kernel
theorem dX9_scoreOf_93 : decode cX9_scoreOf 93 = .ok (.lload 11, 2) := by decide +kernel
theorem dX9_scoreOf_95 : decode cX9_scoreOf 95 = .ok (.ldc2_w 150, 3) := by decide +kernel
theorem dX9_scoreOf_98 : decode cX9_scoreOf 98 = .ok (.lxor, 1) := by decide +kernel
theorem dX9_scoreOf_99 : decode cX9_scoreOf 99 = .ok (.land, 1) := by decide +kernel
theorem dX9_scoreOf_100 : decode cX9_scoreOf 100 = .ok (.lstore 9, 2) := by decide +kernel
theorem dX9_scoreOf_102 : decode cX9_scoreOf 102 = .ok (.lload 11, 2) := by decide +kernel
theorem dX9_scoreOf_104 : decode cX9_scoreOf 104 = .ok (.invokestatic 146, 3) := by decide +kernel
theorem dX9_scoreOf_107 : decode cX9_scoreOf 107 = .ok (.lload_n 2, 1) := by decide +kernel
theorem dX9_scoreOf_108 : decode cX9_scoreOf 108 = .ok (.land, 1) := by decide +kernel
theorem dX9_scoreOf_109 : decode cX9_scoreOf 109 = .ok (.lconst 0, 1) := by decide +kernel
theorem dX9_scoreOf_110 : decode cX9_scoreOf 110 = .ok (.lcmp, 1) := by decide +kernel
theorem dX9_scoreOf_111 : decode cX9_scoreOf 111 = .ok (.ifCond .eq 7, 3) := by decide +kernel
theorem dX9_scoreOf_114 : decode cX9_scoreOf 114 = .ok (.iconst 1, 1) := by decide +kernel
theorem dX9_scoreOf_115 : decode cX9_scoreOf 115 = .ok (.goto 4, 3) := by decide +kernel
theorem dX9_scoreOf_118 : decode cX9_scoreOf 118 = .ok (.iconst 0, 1) := by decide +kernel
theorem dX9_scoreOf_119 : decode cX9_scoreOf 119 = .ok (.istore 13, 2) := by decide +kernel
theorem dX9_scoreOf_121 : decode cX9_scoreOf 121 = .ok (.lload 11, 2) := by decide +kernel
theorem dX9_scoreOf_123 : decode cX9_scoreOf 123 = .ok (.invokestatic 146, 3) := by decide +kernel
theorem dX9_scoreOf_126 : decode cX9_scoreOf 126 = .ok (.lload 4, 2) := by decide +kernel
theorem dX9_scoreOf_128 : decode cX9_scoreOf 128 = .ok (.land, 1) := by decide +kernel
theorem dX9_scoreOf_129 : decode cX9_scoreOf 129 = .ok (.lconst 0, 1) := by decide +kernel
theorem dX9_scoreOf_130 : decode cX9_scoreOf 130 = .ok (.lcmp, 1) := by decide +kernel
theorem dX9_scoreOf_131 : decode cX9_scoreOf 131 = .ok (.ifCond .eq 7, 3) := by decide +kernel
theorem dX9_scoreOf_134 : decode cX9_scoreOf 134 = .ok (.iconst 1, 1) := by decide +kernel
theorem dX9_scoreOf_135 : decode cX9_scoreOf 135 = .ok (.goto 4, 3) := by decide +kernel
theorem dX9_scoreOf_138 : decode cX9_scoreOf 138 = .ok (.iconst 0, 1) := by decide +kernel
theorem dX9_scoreOf_139 : decode cX9_scoreOf 139 = .ok (.istore 14, 2) := by decide +kernel
theorem dX9_scoreOf_141 : decode cX9_scoreOf 141 = .ok (.iload 8, 2) := by decide +kernel
theorem dX9_scoreOf_143 : decode cX9_scoreOf 143 = .ok (.iload 13, 2) := by decide +kernel
theorem dX9_scoreOf_145 : decode cX9_scoreOf 145 = .ok (.ifCond .eq 16, 3) := by decide +kernel
theorem dX9_scoreOf_148 : decode cX9_scoreOf 148 = .ok (.iload 14, 2) := by decide +kernel
theorem dX9_scoreOf_150 : decode cX9_scoreOf 150 = .ok (.ifCond .ne 11, 3) := by decide +kernel
theorem dX9_scoreOf_153 : decode cX9_scoreOf 153 = .ok (.lload 11, 2) := by decide +kernel
theorem dX9_scoreOf_155 : decode cX9_scoreOf 155 = .ok (.invokestatic 167, 3) := by decide +kernel
theorem dX9_scoreOf_158 : decode cX9_scoreOf 158 = .ok (.goto 23, 3) := by decide +kernel
theorem dX9_scoreOf_161 : decode cX9_scoreOf 161 = .ok (.iload 14, 2) := by decide +kernel
theorem dX9_scoreOf_163 : decode cX9_scoreOf 163 = .ok (.ifCond .eq 17, 3) := by decide +kernel
theorem dX9_scoreOf_166 : decode cX9_scoreOf 166 = .ok (.iload 13, 2) := by decide +kernel
theorem dX9_scoreOf_168 : decode cX9_scoreOf 168 = .ok (.ifCond .ne 12, 3) := by decide +kernel
theorem dX9_scoreOf_171 : decode cX9_scoreOf 171 = .ok (.lload 11, 2) := by decide +kernel
theorem dX9_scoreOf_173 : decode cX9_scoreOf 173 = .ok (.invokestatic 167, 3) := by decide +kernel
theorem dX9_scoreOf_176 : decode cX9_scoreOf 176 = .ok (.ineg, 1) := by decide +kernel
theorem dX9_scoreOf_177 : decode cX9_scoreOf 177 = .ok (.goto 4, 3) := by decide +kernel
theorem dX9_scoreOf_180 : decode cX9_scoreOf 180 = .ok (.iconst 0, 1) := by decide +kernel
theorem dX9_scoreOf_181 : decode cX9_scoreOf 181 = .ok (.iadd, 1) := by decide +kernel
theorem dX9_scoreOf_182 : decode cX9_scoreOf 182 = .ok (.istore 8, 2) := by decide +kernel
theorem dX9_scoreOf_184 : decode cX9_scoreOf 184 = .ok (.goto (-113), 3) := by decide +kernel
theorem dX9_scoreOf_187 : decode cX9_scoreOf 187 = .ok (.iload 8, 2) := by decide +kernel
theorem dX9_scoreOf_189 : decode cX9_scoreOf 189 = .ok (.ireturn, 1) := by decide +kernel
theorem dX9_score_0 : decode cX9_score 0 = .ok (.aload_n 0, 1) := by decide +kernel
theorem dX9_score_1 : decode cX9_score 1 = .ok (.aload_n 0, 1) := by decide +kernel
theorem dX9_score_2 : decode cX9_score 2 = .ok (.iload_n 1, 1) := by decide +kernel
theorem dX9_score_3 : decode cX9_score 3 = .ok (.invokevirtual 241, 3) := by decide +kernel
theorem dX9_score_6 : decode cX9_score 6 = .ok (.ifCond .eq 7, 3) := by decide +kernel
theorem dX9_score_9 : decode cX9_score 9 = .ok (.iconst 0, 1) := by decide +kernel
theorem dX9_score_10 : decode cX9_score 10 = .ok (.goto 4, 3) := by decide +kernel
theorem dX9_score_13 : decode cX9_score 13 = .ok (.iconst 1, 1) := by decide +kernel
theorem dX9_score_14 : decode cX9_score 14 = .ok (.invokevirtual 185, 3) := by decide +kernel
theorem dX9_score_17 : decode cX9_score 17 = .ok (.ifCond .eq 7, 3) := by decide +kernel
theorem dX9_score_20 : decode cX9_score 20 = .ok (.iconst 0, 1) := by decide +kernel
theorem dX9_score_21 : decode cX9_score 21 = .ok (.goto 8, 3) := by decide +kernel
theorem dX9_score_24 : decode cX9_score 24 = .ok (.aload_n 0, 1) := by decide +kernel
theorem dX9_score_25 : decode cX9_score 25 = .ok (.iload_n 1, 1) := by decide +kernel
theorem dX9_score_26 : decode cX9_score 26 = .ok (.invokevirtual 258, 3) := by decide +kernel
theorem dX9_score_29 : decode cX9_score 29 = .ok (.ireturn, 1) := by decide +kernel
theorem dX9_libertiesOf_0 : decode cX9_libertiesOf 0 = .ok (.aload_n 0, 1) := by decide +kernel
theorem dX9_libertiesOf_1 : decode cX9_libertiesOf 1 = .ok (.aload_n 0, 1) := by decide +kernel
theorem dX9_libertiesOf_2 : decode cX9_libertiesOf 2 = .ok (.iload_n 1, 1) := by decide +kernel
theorem dX9_libertiesOf_3 : decode cX9_libertiesOf 3 = .ok (.invokevirtual 241, 3) := by decide +kernel
theorem dX9_libertiesOf_6 : decode cX9_libertiesOf 6 = .ok (.ifCond .eq 14, 3) := by decide +kernel
theorem dX9_libertiesOf_9 : decode cX9_libertiesOf 9 = .ok (.iload_n 2, 1) := by decide +kernel
theorem dX9_libertiesOf_10 : decode cX9_libertiesOf 10 = .ok (.invokestatic 244, 3) := by decide +kernel
theorem dX9_libertiesOf_13 : decode cX9_libertiesOf 13 = .ok (.ifCond .eq 7, 3) := by decide +kernel
theorem dX9_libertiesOf_16 : decode cX9_libertiesOf 16 = .ok (.iconst 0, 1) := by decide +kernel
theorem dX9_libertiesOf_17 : decode cX9_libertiesOf 17 = .ok (.goto 4, 3) := by decide +kernel
theorem dX9_libertiesOf_20 : decode cX9_libertiesOf 20 = .ok (.iconst 1, 1) := by decide +kernel
theorem dX9_libertiesOf_21 : decode cX9_libertiesOf 21 = .ok (.invokevirtual 185, 3) := by decide +kernel
theorem dX9_libertiesOf_24 : decode cX9_libertiesOf 24 = .ok (.ifCond .eq 5, 3) := by decide +kernel
theorem dX9_libertiesOf_27 : decode cX9_libertiesOf 27 = .ok (.iconst 0, 1) := by decide +kernel
theorem dX9_libertiesOf_28 : decode cX9_libertiesOf 28 = .ok (.ireturn, 1) := by decide +kernel
theorem dX9_libertiesOf_29 : decode cX9_libertiesOf 29 = .ok (.aload_n 0, 1) := by decide +kernel
theorem dX9_libertiesOf_30 : decode cX9_libertiesOf 30 = .ok (.getfield 65, 3) := by decide +kernel
theorem dX9_libertiesOf_33 : decode cX9_libertiesOf 33 = .ok (.aload_n 0, 1) := by decide +kernel
theorem dX9_libertiesOf_34 : decode cX9_libertiesOf 34 = .ok (.getfield 44, 3) := by decide +kernel
theorem dX9_libertiesOf_37 : decode cX9_libertiesOf 37 = .ok (.iload_n 1, 1) := by decide +kernel
theorem dX9_libertiesOf_38 : decode cX9_libertiesOf 38 = .ok (.iaload, 1) := by decide +kernel
theorem dX9_libertiesOf_39 : decode cX9_libertiesOf 39 = .ok (.laload, 1) := by decide +kernel
theorem dX9_libertiesOf_40 : decode cX9_libertiesOf 40 = .ok (.lstore_n 3, 1) := by decide +kernel
theorem dX9_libertiesOf_41 : decode cX9_libertiesOf 41 = .ok (.aload_n 0, 1) := by decide +kernel
theorem dX9_libertiesOf_42 : decode cX9_libertiesOf 42 = .ok (.getfield 69, 3) := by decide +kernel
theorem dX9_libertiesOf_45 : decode cX9_libertiesOf 45 = .ok (.aload_n 0, 1) := by decide +kernel
theorem dX9_libertiesOf_46 : decode cX9_libertiesOf 46 = .ok (.getfield 44, 3) := by decide +kernel
theorem dX9_libertiesOf_49 : decode cX9_libertiesOf 49 = .ok (.iload_n 1, 1) := by decide +kernel
theorem dX9_libertiesOf_50 : decode cX9_libertiesOf 50 = .ok (.iaload, 1) := by decide +kernel
theorem dX9_libertiesOf_51 : decode cX9_libertiesOf 51 = .ok (.laload, 1) := by decide +kernel
theorem dX9_libertiesOf_52 : decode cX9_libertiesOf 52 = .ok (.lstore 5, 2) := by decide +kernel
theorem dX9_libertiesOf_54 : decode cX9_libertiesOf 54 = .ok (.lload_n 3, 1) := by decide +kernel
theorem dX9_libertiesOf_55 : decode cX9_libertiesOf 55 = .ok (.lload 5, 2) := by decide +kernel
theorem dX9_libertiesOf_57 : decode cX9_libertiesOf 57 = .ok (.iload_n 2, 1) := by decide +kernel
theorem dX9_libertiesOf_58 : decode cX9_libertiesOf 58 = .ok (.invokestatic 265, 3) := by decide +kernel
theorem dX9_libertiesOf_61 : decode cX9_libertiesOf 61 = .ok (.lload_n 3, 1) := by decide +kernel
theorem dX9_libertiesOf_62 : decode cX9_libertiesOf 62 = .ok (.lload 5, 2) := by decide +kernel
theorem dX9_libertiesOf_64 : decode cX9_libertiesOf 64 = .ok (.invokestatic 156, 3) := by decide +kernel
theorem dX9_libertiesOf_67 : decode cX9_libertiesOf 67 = .ok (.invokestatic 167, 3) := by decide +kernel
theorem dX9_libertiesOf_70 : decode cX9_libertiesOf 70 = .ok (.ireturn, 1) := by decide +kernel
theorem dX9_chainAt_0 : decode cX9_chainAt 0 = .ok (.iload 4, 2) := by decide +kernel
theorem dX9_chainAt_2 : decode cX9_chainAt 2 = .ok (.invokestatic 160, 3) := by decide +kernel
theorem dX9_chainAt_5 : decode cX9_chainAt 5 = .ok (.lload_n 0, 1) := by decide +kernel
theorem dX9_chainAt_6 : decode cX9_chainAt 6 = .ok (.iload 4, 2) := by decide +kernel
theorem dX9_chainAt_8 : decode cX9_chainAt 8 = .ok (.invokestatic 160, 3) := by decide +kernel
theorem dX9_chainAt_11 : decode cX9_chainAt 11 = .ok (.land, 1) := by decide +kernel
theorem dX9_chainAt_12 : decode cX9_chainAt 12 = .ok (.lconst 0, 1) := by decide +kernel
theorem dX9_chainAt_13 : decode cX9_chainAt 13 = .ok (.lcmp, 1) := by decide +kernel
theorem dX9_chainAt_14 : decode cX9_chainAt 14 = .ok (.ifCond .eq 7, 3) := by decide +kernel
theorem dX9_chainAt_17 : decode cX9_chainAt 17 = .ok (.lload_n 0, 1) := by decide +kernel
theorem dX9_chainAt_18 : decode cX9_chainAt 18 = .ok (.goto 4, 3) := by decide +kernel
theorem dX9_chainAt_21 : decode cX9_chainAt 21 = .ok (.lload_n 2, 1) := by decide +kernel
theorem dX9_chainAt_22 : decode cX9_chainAt 22 = .ok (.invokestatic 152, 3) := by decide +kernel
theorem dX9_chainAt_25 : decode cX9_chainAt 25 = .ok (.lreturn, 1) := by decide +kernel
theorem dX9_liberties_0 : decode cX9_liberties 0 = .ok (.aload_n 0, 1) := by decide +kernel
theorem dX9_liberties_1 : decode cX9_liberties 1 = .ok (.iload_n 1, 1) := by decide +kernel
theorem dX9_liberties_2 : decode cX9_liberties 2 = .ok (.iload_n 2, 1) := by decide +kernel
theorem dX9_liberties_3 : decode cX9_liberties 3 = .ok (.invokevirtual 269, 3) := by decide +kernel
theorem dX9_liberties_6 : decode cX9_liberties 6 = .ok (.ireturn, 1) := by decide +kernel
theorem dX9_flooded_0 : decode cX9_flooded 0 = .ok (.aload_n 0, 1) := by decide +kernel
theorem dX9_flooded_1 : decode cX9_flooded 1 = .ok (.iload_n 1, 1) := by decide +kernel
theorem dX9_flooded_2 : decode cX9_flooded 2 = .ok (.iload_n 2, 1) := by decide +kernel
theorem dX9_flooded_3 : decode cX9_flooded 3 = .ok (.invokevirtual 269, 3) := by decide +kernel
theorem dX9_flooded_6 : decode cX9_flooded 6 = .ok (.ireturn, 1) := by decide +kernel
theorem dX9_finds_0 : decode cX9_finds 0 = .ok (.iconst 0, 1) := by decide +kernel
theorem dX9_finds_1 : decode cX9_finds 1 = .ok (.istore_n 2, 1) := by decide +kernel
theorem dX9_finds_2 : decode cX9_finds 2 = .ok (.iload_n 2, 1) := by decide +kernel
theorem dX9_finds_3 : decode cX9_finds 3 = .ok (.aload_n 0, 1) := by decide +kernel
theorem dX9_finds_4 : decode cX9_finds 4 = .ok (.getfield 130, 3) := by decide +kernel
theorem dX9_finds_7 : decode cX9_finds 7 = .ok (.if_icmp .ge 28, 3) := by decide +kernel
theorem dX9_finds_10 : decode cX9_finds 10 = .ok (.aload_n 0, 1) := by decide +kernel
theorem dX9_finds_11 : decode cX9_finds 11 = .ok (.getfield 13, 3) := by decide +kernel
theorem dX9_finds_14 : decode cX9_finds 14 = .ok (.iload_n 2, 1) := by decide +kernel
theorem dX9_finds_15 : decode cX9_finds 15 = .ok (.aload_n 0, 1) := by decide +kernel
theorem dX9_finds_16 : decode cX9_finds 16 = .ok (.getfield 9, 3) := by decide +kernel
theorem dX9_finds_19 : decode cX9_finds 19 = .ok (.iload_n 2, 1) := by decide +kernel
theorem dX9_finds_20 : decode cX9_finds 20 = .ok (.iaload, 1) := by decide +kernel
theorem dX9_finds_21 : decode cX9_finds 21 = .ok (.iastore, 1) := by decide +kernel
theorem dX9_finds_22 : decode cX9_finds 22 = .ok (.aload_n 0, 1) := by decide +kernel
theorem dX9_finds_23 : decode cX9_finds 23 = .ok (.getfield 16, 3) := by decide +kernel
theorem dX9_finds_26 : decode cX9_finds 26 = .ok (.iload_n 2, 1) := by decide +kernel
theorem dX9_finds_27 : decode cX9_finds 27 = .ok (.iconst 0, 1) := by decide +kernel
theorem dX9_finds_28 : decode cX9_finds 28 = .ok (.iastore, 1) := by decide +kernel
theorem dX9_finds_29 : decode cX9_finds 29 = .ok (.iinc 2 1, 3) := by decide +kernel
theorem dX9_finds_32 : decode cX9_finds 32 = .ok (.goto (-30), 3) := by decide +kernel
theorem dX9_finds_35 : decode cX9_finds 35 = .ok (.iconst 0, 1) := by decide +kernel
theorem dX9_finds_36 : decode cX9_finds 36 = .ok (.istore_n 2, 1) := by decide +kernel
theorem dX9_finds_37 : decode cX9_finds 37 = .ok (.iload_n 2, 1) := by decide +kernel
theorem dX9_finds_38 : decode cX9_finds 38 = .ok (.iload_n 1, 1) := by decide +kernel
theorem dX9_finds_39 : decode cX9_finds 39 = .ok (.if_icmp .ge 33, 3) := by decide +kernel
theorem dX9_finds_42 : decode cX9_finds 42 = .ok (.aload_n 0, 1) := by decide +kernel
theorem dX9_finds_43 : decode cX9_finds 43 = .ok (.getfield 37, 3) := by decide +kernel
theorem dX9_finds_46 : decode cX9_finds 46 = .ok (.aload_n 0, 1) := by decide +kernel
theorem dX9_finds_47 : decode cX9_finds 47 = .ok (.getfield 62, 3) := by decide +kernel
theorem dX9_finds_50 : decode cX9_finds 50 = .ok (.iload_n 2, 1) := by decide +kernel
theorem dX9_finds_51 : decode cX9_finds 51 = .ok (.iaload, 1) := by decide +kernel
theorem dX9_finds_52 : decode cX9_finds 52 = .ok (.baload, 1) := by decide +kernel
theorem dX9_finds_53 : decode cX9_finds 53 = .ok (.ifCond .ne 13, 3) := by decide +kernel
theorem dX9_finds_56 : decode cX9_finds 56 = .ok (.aload_n 0, 1) := by decide +kernel
theorem dX9_finds_57 : decode cX9_finds 57 = .ok (.aload_n 0, 1) := by decide +kernel
theorem dX9_finds_58 : decode cX9_finds 58 = .ok (.getfield 62, 3) := by decide +kernel
theorem dX9_finds_61 : decode cX9_finds 61 = .ok (.iload_n 2, 1) := by decide +kernel
theorem dX9_finds_62 : decode cX9_finds 62 = .ok (.iaload, 1) := by decide +kernel
theorem dX9_finds_63 : decode cX9_finds 63 = .ok (.invokevirtual 222, 3) := by decide +kernel
theorem dX9_finds_66 : decode cX9_finds 66 = .ok (.iinc 2 1, 3) := by decide +kernel
theorem dX9_finds_69 : decode cX9_finds 69 = .ok (.goto (-32), 3) := by decide +kernel
theorem dX9_finds_72 : decode cX9_finds 72 = .ok (.return_, 1) := by decide +kernel
theorem dX9_dueOf_0 : decode cX9_dueOf 0 = .ok (.aload_n 0, 1) := by decide +kernel
theorem dX9_dueOf_1 : decode cX9_dueOf 1 = .ok (.aload_n 0, 1) := by decide +kernel
theorem dX9_dueOf_2 : decode cX9_dueOf 2 = .ok (.getfield 41, 3) := by decide +kernel
theorem dX9_dueOf_5 : decode cX9_dueOf 5 = .ok (.iload_n 1, 1) := by decide +kernel
theorem dX9_dueOf_6 : decode cX9_dueOf 6 = .ok (.iaload, 1) := by decide +kernel
theorem dX9_dueOf_7 : decode cX9_dueOf 7 = .ok (.invokevirtual 272, 3) := by decide +kernel
theorem dX9_dueOf_10 : decode cX9_dueOf 10 = .ok (.aload_n 0, 1) := by decide +kernel
theorem dX9_dueOf_11 : decode cX9_dueOf 11 = .ok (.getfield 19, 3) := by decide +kernel
theorem dX9_dueOf_14 : decode cX9_dueOf 14 = .ok (.iload_n 1, 1) := by decide +kernel
theorem dX9_dueOf_15 : decode cX9_dueOf 15 = .ok (.iaload, 1) := by decide +kernel
theorem dX9_dueOf_16 : decode cX9_dueOf 16 = .ok (.istore_n 2, 1) := by decide +kernel
theorem dX9_dueOf_17 : decode cX9_dueOf 17 = .ok (.aload_n 0, 1) := by decide +kernel
theorem dX9_dueOf_18 : decode cX9_dueOf 18 = .ok (.getfield 22, 3) := by decide +kernel
theorem dX9_dueOf_21 : decode cX9_dueOf 21 = .ok (.iload_n 1, 1) := by decide +kernel
theorem dX9_dueOf_22 : decode cX9_dueOf 22 = .ok (.iaload, 1) := by decide +kernel
theorem dX9_dueOf_23 : decode cX9_dueOf 23 = .ok (.istore_n 3, 1) := by decide +kernel
theorem dX9_dueOf_24 : decode cX9_dueOf 24 = .ok (.bipush 100, 2) := by decide +kernel
theorem dX9_dueOf_26 : decode cX9_dueOf 26 = .ok (.aload_n 0, 1) := by decide +kernel
theorem dX9_dueOf_27 : decode cX9_dueOf 27 = .ok (.iload_n 2, 1) := by decide +kernel
theorem dX9_dueOf_28 : decode cX9_dueOf 28 = .ok (.iload_n 3, 1) := by decide +kernel
theorem dX9_dueOf_29 : decode cX9_dueOf 29 = .ok (.invokevirtual 202, 3) := by decide +kernel
theorem dX9_dueOf_32 : decode cX9_dueOf 32 = .ok (.imul, 1) := by decide +kernel
theorem dX9_dueOf_33 : decode cX9_dueOf 33 = .ok (.bipush 10, 2) := by decide +kernel
theorem dX9_dueOf_35 : decode cX9_dueOf 35 = .ok (.iload_n 2, 1) := by decide +kernel
theorem dX9_dueOf_36 : decode cX9_dueOf 36 = .ok (.iload_n 3, 1) := by decide +kernel
theorem dX9_dueOf_37 : decode cX9_dueOf 37 = .ok (.iadd, 1) := by decide +kernel
theorem dX9_dueOf_38 : decode cX9_dueOf 38 = .ok (.aload_n 0, 1) := by decide +kernel
theorem dX9_dueOf_39 : decode cX9_dueOf 39 = .ok (.iload_n 2, 1) := by decide +kernel
theorem dX9_dueOf_40 : decode cX9_dueOf 40 = .ok (.iload_n 3, 1) := by decide +kernel
theorem dX9_dueOf_41 : decode cX9_dueOf 41 = .ok (.invokevirtual 202, 3) := by decide +kernel
theorem dX9_dueOf_44 : decode cX9_dueOf 44 = .ok (.isub, 1) := by decide +kernel
theorem dX9_dueOf_45 : decode cX9_dueOf 45 = .ok (.imul, 1) := by decide +kernel
theorem dX9_dueOf_46 : decode cX9_dueOf 46 = .ok (.iadd, 1) := by decide +kernel
theorem dX9_dueOf_47 : decode cX9_dueOf 47 = .ok (.aload_n 0, 1) := by decide +kernel
theorem dX9_dueOf_48 : decode cX9_dueOf 48 = .ok (.iload_n 2, 1) := by decide +kernel
theorem dX9_dueOf_49 : decode cX9_dueOf 49 = .ok (.iload_n 3, 1) := by decide +kernel
theorem dX9_dueOf_50 : decode cX9_dueOf 50 = .ok (.invokevirtual 205, 3) := by decide +kernel
theorem dX9_dueOf_53 : decode cX9_dueOf 53 = .ok (.iadd, 1) := by decide +kernel
theorem dX9_dueOf_54 : decode cX9_dueOf 54 = .ok (.istore 4, 2) := by decide +kernel
theorem dX9_dueOf_56 : decode cX9_dueOf 56 = .ok (.aload_n 0, 1) := by decide +kernel
theorem dX9_dueOf_57 : decode cX9_dueOf 57 = .ok (.aload_n 0, 1) := by decide +kernel
theorem dX9_dueOf_58 : decode cX9_dueOf 58 = .ok (.getfield 208, 3) := by decide +kernel
theorem dX9_dueOf_61 : decode cX9_dueOf 61 = .ok (.invokevirtual 272, 3) := by decide +kernel
theorem dX9_dueOf_64 : decode cX9_dueOf 64 = .ok (.iload 4, 2) := by decide +kernel
theorem dX9_dueOf_66 : decode cX9_dueOf 66 = .ok (.ireturn, 1) := by decide +kernel
theorem dX9_isOff_0 : decode cX9_isOff 0 = .ok (.aload_n 0, 1) := by decide +kernel
theorem dX9_isOff_1 : decode cX9_isOff 1 = .ok (.getfield 37, 3) := by decide +kernel
theorem dX9_isOff_4 : decode cX9_isOff 4 = .ok (.iload_n 1, 1) := by decide +kernel
theorem dX9_isOff_5 : decode cX9_isOff 5 = .ok (.baload, 1) := by decide +kernel
theorem dX9_isOff_6 : decode cX9_isOff 6 = .ok (.ifCond .ne 41, 3) := by decide +kernel
theorem dX9_isOff_9 : decode cX9_isOff 9 = .ok (.aload_n 0, 1) := by decide +kernel
theorem dX9_isOff_10 : decode cX9_isOff 10 = .ok (.iload_n 1, 1) := by decide +kernel
theorem dX9_isOff_11 : decode cX9_isOff 11 = .ok (.invokevirtual 275, 3) := by decide +kernel
theorem dX9_isOff_14 : decode cX9_isOff 14 = .ok (.bipush 100, 2) := by decide +kernel
theorem dX9_isOff_16 : decode cX9_isOff 16 = .ok (.aload_n 0, 1) := by decide +kernel
theorem dX9_isOff_17 : decode cX9_isOff 17 = .ok (.getfield 25, 3) := by decide +kernel
theorem dX9_isOff_20 : decode cX9_isOff 20 = .ok (.iload_n 1, 1) := by decide +kernel
theorem dX9_isOff_21 : decode cX9_isOff 21 = .ok (.iaload, 1) := by decide +kernel
theorem dX9_isOff_22 : decode cX9_isOff 22 = .ok (.imul, 1) := by decide +kernel
theorem dX9_isOff_23 : decode cX9_isOff 23 = .ok (.bipush 10, 2) := by decide +kernel
theorem dX9_isOff_25 : decode cX9_isOff 25 = .ok (.aload_n 0, 1) := by decide +kernel
theorem dX9_isOff_26 : decode cX9_isOff 26 = .ok (.getfield 28, 3) := by decide +kernel
theorem dX9_isOff_29 : decode cX9_isOff 29 = .ok (.iload_n 1, 1) := by decide +kernel
theorem dX9_isOff_30 : decode cX9_isOff 30 = .ok (.iaload, 1) := by decide +kernel
theorem dX9_isOff_31 : decode cX9_isOff 31 = .ok (.imul, 1) := by decide +kernel
theorem dX9_isOff_32 : decode cX9_isOff 32 = .ok (.iadd, 1) := by decide +kernel
theorem dX9_isOff_33 : decode cX9_isOff 33 = .ok (.aload_n 0, 1) := by decide +kernel
theorem dX9_isOff_34 : decode cX9_isOff 34 = .ok (.getfield 31, 3) := by decide +kernel
theorem dX9_isOff_37 : decode cX9_isOff 37 = .ok (.iload_n 1, 1) := by decide +kernel
theorem dX9_isOff_38 : decode cX9_isOff 38 = .ok (.iaload, 1) := by decide +kernel
theorem dX9_isOff_39 : decode cX9_isOff 39 = .ok (.iadd, 1) := by decide +kernel
theorem dX9_isOff_40 : decode cX9_isOff 40 = .ok (.if_icmp .eq 7, 3) := by decide +kernel
theorem dX9_isOff_43 : decode cX9_isOff 43 = .ok (.iconst 1, 1) := by decide +kernel
theorem dX9_isOff_44 : decode cX9_isOff 44 = .ok (.goto 4, 3) := by decide +kernel
theorem dX9_isOff_47 : decode cX9_isOff 47 = .ok (.iconst 0, 1) := by decide +kernel
theorem dX9_isOff_48 : decode cX9_isOff 48 = .ok (.ireturn, 1) := by decide +kernel
theorem dX9_off_0 : decode cX9_off 0 = .ok (.iconst 0, 1) := by decide +kernel
theorem dX9_off_1 : decode cX9_off 1 = .ok (.istore_n 1, 1) := by decide +kernel
theorem dX9_off_2 : decode cX9_off 2 = .ok (.iconst 0, 1) := by decide +kernel
theorem dX9_off_3 : decode cX9_off 3 = .ok (.istore_n 2, 1) := by decide +kernel
theorem dX9_off_4 : decode cX9_off 4 = .ok (.iload_n 2, 1) := by decide +kernel
theorem dX9_off_5 : decode cX9_off 5 = .ok (.aload_n 0, 1) := by decide +kernel
theorem dX9_off_6 : decode cX9_off 6 = .ok (.getfield 137, 3) := by decide +kernel
theorem dX9_off_9 : decode cX9_off 9 = .ok (.if_icmp .ge 27, 3) := by decide +kernel
theorem dX9_off_12 : decode cX9_off 12 = .ok (.iload_n 1, 1) := by decide +kernel
theorem dX9_off_13 : decode cX9_off 13 = .ok (.aload_n 0, 1) := by decide +kernel
theorem dX9_off_14 : decode cX9_off 14 = .ok (.iload_n 2, 1) := by decide +kernel
theorem dX9_off_15 : decode cX9_off 15 = .ok (.invokevirtual 278, 3) := by decide +kernel
theorem dX9_off_18 : decode cX9_off 18 = .ok (.ifCond .eq 9, 3) := by decide +kernel
theorem dX9_off_21 : decode cX9_off 21 = .ok (.iconst 1, 1) := by decide +kernel
theorem dX9_off_22 : decode cX9_off 22 = .ok (.iload_n 2, 1) := by decide +kernel
theorem dX9_off_23 : decode cX9_off 23 = .ok (.ishl, 1) := by decide +kernel
theorem dX9_off_24 : decode cX9_off 24 = .ok (.goto 4, 3) := by decide +kernel
theorem dX9_off_27 : decode cX9_off 27 = .ok (.iconst 0, 1) := by decide +kernel
theorem dX9_off_28 : decode cX9_off 28 = .ok (.ior, 1) := by decide +kernel
theorem dX9_off_29 : decode cX9_off 29 = .ok (.istore_n 1, 1) := by decide +kernel
theorem dX9_off_30 : decode cX9_off 30 = .ok (.iinc 2 1, 3) := by decide +kernel
theorem dX9_off_33 : decode cX9_off 33 = .ok (.goto (-29), 3) := by decide +kernel
theorem dX9_off_36 : decode cX9_off 36 = .ok (.iload_n 1, 1) := by decide +kernel
theorem dX9_off_37 : decode cX9_off 37 = .ok (.ireturn, 1) := by decide +kernel
theorem dX9_judge_0 : decode cX9_judge 0 = .ok (.aload_n 0, 1) := by decide +kernel
theorem dX9_judge_1 : decode cX9_judge 1 = .ok (.iload_n 1, 1) := by decide +kernel
theorem dX9_judge_2 : decode cX9_judge 2 = .ok (.invokevirtual 241, 3) := by decide +kernel
theorem dX9_judge_5 : decode cX9_judge 5 = .ok (.istore_n 2, 1) := by decide +kernel
theorem dX9_judge_6 : decode cX9_judge 6 = .ok (.aload_n 0, 1) := by decide +kernel
theorem dX9_judge_7 : decode cX9_judge 7 = .ok (.iload_n 2, 1) := by decide +kernel
theorem dX9_judge_8 : decode cX9_judge 8 = .ok (.ifCond .ne 7, 3) := by decide +kernel
theorem dX9_judge_11 : decode cX9_judge 11 = .ok (.iconst 1, 1) := by decide +kernel
theorem dX9_judge_12 : decode cX9_judge 12 = .ok (.goto 26, 3) := by decide +kernel
theorem dX9_judge_15 : decode cX9_judge 15 = .ok (.aload_n 0, 1) := by decide +kernel
theorem dX9_judge_16 : decode cX9_judge 16 = .ok (.getfield 34, 3) := by decide +kernel
theorem dX9_judge_19 : decode cX9_judge 19 = .ok (.iload_n 1, 1) := by decide +kernel
theorem dX9_judge_20 : decode cX9_judge 20 = .ok (.iaload, 1) := by decide +kernel
theorem dX9_judge_21 : decode cX9_judge 21 = .ok (.ifCond .eq 12, 3) := by decide +kernel
theorem dX9_judge_24 : decode cX9_judge 24 = .ok (.aload_n 0, 1) := by decide +kernel
theorem dX9_judge_25 : decode cX9_judge 25 = .ok (.getfield 37, 3) := by decide +kernel
theorem dX9_judge_28 : decode cX9_judge 28 = .ok (.iload_n 1, 1) := by decide +kernel
theorem dX9_judge_29 : decode cX9_judge 29 = .ok (.baload, 1) := by decide +kernel
theorem dX9_judge_30 : decode cX9_judge 30 = .ok (.ifCond .eq 7, 3) := by decide +kernel
theorem dX9_judge_33 : decode cX9_judge 33 = .ok (.iconst 2, 1) := by decide +kernel
theorem dX9_judge_34 : decode cX9_judge 34 = .ok (.goto 4, 3) := by decide +kernel
theorem dX9_judge_37 : decode cX9_judge 37 = .ok (.iconst 0, 1) := by decide +kernel
theorem dX9_judge_38 : decode cX9_judge 38 = .ok (.invokevirtual 185, 3) := by decide +kernel
theorem dX9_judge_41 : decode cX9_judge 41 = .ok (.ifCond .eq 5, 3) := by decide +kernel
theorem dX9_judge_44 : decode cX9_judge 44 = .ok (.iconst 0, 1) := by decide +kernel
theorem dX9_judge_45 : decode cX9_judge 45 = .ok (.ireturn, 1) := by decide +kernel
theorem dX9_judge_46 : decode cX9_judge 46 = .ok (.aload_n 0, 1) := by decide +kernel
theorem dX9_judge_47 : decode cX9_judge 47 = .ok (.getfield 37, 3) := by decide +kernel
theorem dX9_judge_50 : decode cX9_judge 50 = .ok (.iload_n 1, 1) := by decide +kernel
theorem dX9_judge_51 : decode cX9_judge 51 = .ok (.iconst 1, 1) := by decide +kernel
theorem dX9_judge_52 : decode cX9_judge 52 = .ok (.bastore, 1) := by decide +kernel
theorem dX9_judge_53 : decode cX9_judge 53 = .ok (.aload_n 0, 1) := by decide +kernel
theorem dX9_judge_54 : decode cX9_judge 54 = .ok (.aload_n 0, 1) := by decide +kernel
theorem dX9_judge_55 : decode cX9_judge 55 = .ok (.getfield 208, 3) := by decide +kernel
theorem dX9_judge_58 : decode cX9_judge 58 = .ok (.invokevirtual 272, 3) := by decide +kernel
theorem dX9_judge_61 : decode cX9_judge 61 = .ok (.aload_n 0, 1) := by decide +kernel
theorem dX9_judge_62 : decode cX9_judge 62 = .ok (.invokevirtual 281, 3) := by decide +kernel
theorem dX9_judge_65 : decode cX9_judge 65 = .ok (.ireturn, 1) := by decide +kernel
theorem dX9_due_0 : decode cX9_due 0 = .ok (.aload_n 0, 1) := by decide +kernel
theorem dX9_due_1 : decode cX9_due 1 = .ok (.aload_n 0, 1) := by decide +kernel
theorem dX9_due_2 : decode cX9_due 2 = .ok (.iload_n 1, 1) := by decide +kernel
theorem dX9_due_3 : decode cX9_due 3 = .ok (.invokevirtual 241, 3) := by decide +kernel
theorem dX9_due_6 : decode cX9_due 6 = .ok (.ifCond .eq 7, 3) := by decide +kernel
theorem dX9_due_9 : decode cX9_due 9 = .ok (.iconst 0, 1) := by decide +kernel
theorem dX9_due_10 : decode cX9_due 10 = .ok (.goto 4, 3) := by decide +kernel
theorem dX9_due_13 : decode cX9_due 13 = .ok (.iconst 1, 1) := by decide +kernel
theorem dX9_due_14 : decode cX9_due 14 = .ok (.invokevirtual 185, 3) := by decide +kernel
theorem dX9_due_17 : decode cX9_due 17 = .ok (.ifCond .eq 7, 3) := by decide +kernel
theorem dX9_due_20 : decode cX9_due 20 = .ok (.iconst 0, 1) := by decide +kernel
theorem dX9_due_21 : decode cX9_due 21 = .ok (.goto 8, 3) := by decide +kernel
theorem dX9_due_24 : decode cX9_due 24 = .ok (.aload_n 0, 1) := by decide +kernel
theorem dX9_due_25 : decode cX9_due 25 = .ok (.iload_n 1, 1) := by decide +kernel
theorem dX9_due_26 : decode cX9_due 26 = .ok (.invokevirtual 275, 3) := by decide +kernel
theorem dX9_due_29 : decode cX9_due 29 = .ok (.ireturn, 1) := by decide +kernel
theorem dX9_settle_0 : decode cX9_settle 0 = .ok (.aload_n 0, 1) := by decide +kernel
theorem dX9_settle_1 : decode cX9_settle 1 = .ok (.iconst 0, 1) := by decide +kernel
theorem dX9_settle_2 : decode cX9_settle 2 = .ok (.putfield 126, 3) := by decide +kernel
theorem dX9_settle_5 : decode cX9_settle 5 = .ok (.iconst 0, 1) := by decide +kernel
theorem dX9_settle_6 : decode cX9_settle 6 = .ok (.istore_n 1, 1) := by decide +kernel
theorem dX9_settle_7 : decode cX9_settle 7 = .ok (.aload_n 0, 1) := by decide +kernel
theorem dX9_settle_8 : decode cX9_settle 8 = .ok (.invokevirtual 281, 3) := by decide +kernel
theorem dX9_settle_11 : decode cX9_settle 11 = .ok (.istore_n 2, 1) := by decide +kernel
theorem dX9_settle_12 : decode cX9_settle 12 = .ok (.iload_n 2, 1) := by decide +kernel
theorem dX9_settle_13 : decode cX9_settle 13 = .ok (.ifCond .eq 81, 3) := by decide +kernel
theorem dX9_settle_16 : decode cX9_settle 16 = .ok (.iconst 0, 1) := by decide +kernel
theorem dX9_settle_17 : decode cX9_settle 17 = .ok (.istore_n 3, 1) := by decide +kernel
theorem dX9_settle_18 : decode cX9_settle 18 = .ok (.iload_n 2, 1) := by decide +kernel
theorem dX9_settle_19 : decode cX9_settle 19 = .ok (.iload_n 3, 1) := by decide +kernel
theorem dX9_settle_20 : decode cX9_settle 20 = .ok (.ishr, 1) := by decide +kernel
theorem dX9_settle_21 : decode cX9_settle 21 = .ok (.iconst 1, 1) := by decide +kernel
theorem dX9_settle_22 : decode cX9_settle 22 = .ok (.iand, 1) := by decide +kernel
theorem dX9_settle_23 : decode cX9_settle 23 = .ok (.ifCond .ne 9, 3) := by decide +kernel
theorem dX9_settle_26 : decode cX9_settle 26 = .ok (.iinc 3 1, 3) := by decide +kernel
theorem dX9_settle_29 : decode cX9_settle 29 = .ok (.goto (-11), 3) := by decide +kernel
theorem dX9_settle_32 : decode cX9_settle 32 = .ok (.aload_n 0, 1) := by decide +kernel
theorem dX9_settle_33 : decode cX9_settle 33 = .ok (.getfield 37, 3) := by decide +kernel
theorem dX9_settle_36 : decode cX9_settle 36 = .ok (.iload_n 3, 1) := by decide +kernel
theorem dX9_settle_37 : decode cX9_settle 37 = .ok (.iconst 1, 1) := by decide +kernel
theorem dX9_settle_38 : decode cX9_settle 38 = .ok (.bastore, 1) := by decide +kernel
theorem dX9_settle_39 : decode cX9_settle 39 = .ok (.aload_n 0, 1) := by decide +kernel
theorem dX9_settle_40 : decode cX9_settle 40 = .ok (.getfield 34, 3) := by decide +kernel
theorem dX9_settle_43 : decode cX9_settle 43 = .ok (.iload_n 3, 1) := by decide +kernel
theorem dX9_settle_44 : decode cX9_settle 44 = .ok (.iaload, 1) := by decide +kernel
theorem dX9_settle_45 : decode cX9_settle 45 = .ok (.ifCond .ne 30, 3) := by decide +kernel
theorem dX9_settle_48 : decode cX9_settle 48 = .ok (.aload_n 0, 1) := by decide +kernel
theorem dX9_settle_49 : decode cX9_settle 49 = .ok (.getfield 34, 3) := by decide +kernel
theorem dX9_settle_52 : decode cX9_settle 52 = .ok (.iload_n 3, 1) := by decide +kernel
theorem dX9_settle_53 : decode cX9_settle 53 = .ok (.iconst 2, 1) := by decide +kernel
theorem dX9_settle_54 : decode cX9_settle 54 = .ok (.iastore, 1) := by decide +kernel
theorem dX9_settle_55 : decode cX9_settle 55 = .ok (.aload_n 0, 1) := by decide +kernel
theorem dX9_settle_56 : decode cX9_settle 56 = .ok (.getfield 62, 3) := by decide +kernel
theorem dX9_settle_59 : decode cX9_settle 59 = .ok (.aload_n 0, 1) := by decide +kernel
theorem dX9_settle_60 : decode cX9_settle 60 = .ok (.getfield 208, 3) := by decide +kernel
theorem dX9_settle_63 : decode cX9_settle 63 = .ok (.iload_n 3, 1) := by decide +kernel
theorem dX9_settle_64 : decode cX9_settle 64 = .ok (.iastore, 1) := by decide +kernel
theorem dX9_settle_65 : decode cX9_settle 65 = .ok (.aload_n 0, 1) := by decide +kernel
theorem dX9_settle_66 : decode cX9_settle 66 = .ok (.dup, 1) := by decide +kernel
theorem dX9_settle_67 : decode cX9_settle 67 = .ok (.getfield 208, 3) := by decide +kernel
theorem dX9_settle_70 : decode cX9_settle 70 = .ok (.iconst 1, 1) := by decide +kernel
theorem dX9_settle_71 : decode cX9_settle 71 = .ok (.iadd, 1) := by decide +kernel
theorem dX9_settle_72 : decode cX9_settle 72 = .ok (.putfield 208, 3) := by decide +kernel
theorem dX9_settle_75 : decode cX9_settle 75 = .ok (.aload_n 0, 1) := by decide +kernel
theorem dX9_settle_76 : decode cX9_settle 76 = .ok (.aload_n 0, 1) := by decide +kernel
theorem dX9_settle_77 : decode cX9_settle 77 = .ok (.getfield 208, 3) := by decide +kernel
theorem dX9_settle_80 : decode cX9_settle 80 = .ok (.invokevirtual 272, 3) := by decide +kernel
theorem dX9_settle_83 : decode cX9_settle 83 = .ok (.iinc 1 1, 3) := by decide +kernel
theorem dX9_settle_86 : decode cX9_settle 86 = .ok (.aload_n 0, 1) := by decide +kernel
theorem dX9_settle_87 : decode cX9_settle 87 = .ok (.invokevirtual 281, 3) := by decide +kernel
theorem dX9_settle_90 : decode cX9_settle 90 = .ok (.istore_n 2, 1) := by decide +kernel
theorem dX9_settle_91 : decode cX9_settle 91 = .ok (.goto (-79), 3) := by decide +kernel
theorem dX9_settle_94 : decode cX9_settle 94 = .ok (.iload_n 1, 1) := by decide +kernel
theorem dX9_settle_95 : decode cX9_settle 95 = .ok (.ireturn, 1) := by decide +kernel
theorem dX9_attacks_0 : decode cX9_attacks 0 = .ok (.lload_n 1, 1) := by decide +kernel
theorem dX9_attacks_1 : decode cX9_attacks 1 = .ok (.lload_n 3, 1) := by decide +kernel
theorem dX9_attacks_2 : decode cX9_attacks 2 = .ok (.iload 5, 2) := by decide +kernel
theorem dX9_attacks_4 : decode cX9_attacks 4 = .ok (.invokestatic 265, 3) := by decide +kernel
theorem dX9_attacks_7 : decode cX9_attacks 7 = .ok (.lstore 7, 2) := by decide +kernel
theorem dX9_attacks_9 : decode cX9_attacks 9 = .ok (.lload 7, 2) := by decide +kernel
theorem dX9_attacks_11 : decode cX9_attacks 11 = .ok (.lload_n 1, 1) := by decide +kernel
theorem dX9_attacks_12 : decode cX9_attacks 12 = .ok (.lload_n 3, 1) := by decide +kernel
theorem dX9_attacks_13 : decode cX9_attacks 13 = .ok (.invokestatic 156, 3) := by decide +kernel
theorem dX9_attacks_16 : decode cX9_attacks 16 = .ok (.lstore 9, 2) := by decide +kernel
theorem dX9_attacks_18 : decode cX9_attacks 18 = .ok (.lload 9, 2) := by decide +kernel
theorem dX9_attacks_20 : decode cX9_attacks 20 = .ok (.invokestatic 167, 3) := by decide +kernel
theorem dX9_attacks_23 : decode cX9_attacks 23 = .ok (.iload 6, 2) := by decide +kernel
theorem dX9_attacks_25 : decode cX9_attacks 25 = .ok (.if_icmp .le 5, 3) := by decide +kernel
theorem dX9_attacks_28 : decode cX9_attacks 28 = .ok (.lconst 0, 1) := by decide +kernel
theorem dX9_attacks_29 : decode cX9_attacks 29 = .ok (.lreturn, 1) := by decide +kernel
theorem dX9_attacks_30 : decode cX9_attacks 30 = .ok (.iload 6, 2) := by decide +kernel
theorem dX9_attacks_32 : decode cX9_attacks 32 = .ok (.iconst 2, 1) := by decide +kernel
theorem dX9_attacks_33 : decode cX9_attacks 33 = .ok (.if_icmp .ne 8, 3) := by decide +kernel
theorem dX9_attacks_36 : decode cX9_attacks 36 = .ok (.lload 9, 2) := by decide +kernel
theorem dX9_attacks_38 : decode cX9_attacks 38 = .ok (.goto 19, 3) := by decide +kernel
theorem dX9_attacks_41 : decode cX9_attacks 41 = .ok (.lload 9, 2) := by decide +kernel
theorem dX9_attacks_43 : decode cX9_attacks 43 = .ok (.lload 9, 2) := by decide +kernel
theorem dX9_attacks_45 : decode cX9_attacks 45 = .ok (.invokestatic 146, 3) := by decide +kernel
theorem dX9_attacks_48 : decode cX9_attacks 48 = .ok (.lload_n 1, 1) := by decide +kernel
theorem dX9_attacks_49 : decode cX9_attacks 49 = .ok (.lload_n 3, 1) := by decide +kernel
theorem dX9_attacks_50 : decode cX9_attacks 50 = .ok (.lor, 1) := by decide +kernel
theorem dX9_attacks_51 : decode cX9_attacks 51 = .ok (.ldc2_w 150, 3) := by decide +kernel
theorem dX9_attacks_54 : decode cX9_attacks 54 = .ok (.lxor, 1) := by decide +kernel
theorem dX9_attacks_55 : decode cX9_attacks 55 = .ok (.land, 1) := by decide +kernel
theorem dX9_attacks_56 : decode cX9_attacks 56 = .ok (.lor, 1) := by decide +kernel
theorem dX9_attacks_57 : decode cX9_attacks 57 = .ok (.lreturn, 1) := by decide +kernel
theorem dX9_replies_0 : decode cX9_replies 0 = .ok (.lload_n 1, 1) := by decide +kernel
theorem dX9_replies_1 : decode cX9_replies 1 = .ok (.lload_n 3, 1) := by decide +kernel
theorem dX9_replies_2 : decode cX9_replies 2 = .ok (.iload 5, 2) := by decide +kernel
theorem dX9_replies_4 : decode cX9_replies 4 = .ok (.invokestatic 265, 3) := by decide +kernel
theorem dX9_replies_7 : decode cX9_replies 7 = .ok (.lstore 7, 2) := by decide +kernel
theorem dX9_replies_9 : decode cX9_replies 9 = .ok (.iload 6, 2) := by decide +kernel
theorem dX9_replies_11 : decode cX9_replies 11 = .ok (.ifCond .ne 7, 3) := by decide +kernel
theorem dX9_replies_14 : decode cX9_replies 14 = .ok (.lload_n 3, 1) := by decide +kernel
theorem dX9_replies_15 : decode cX9_replies 15 = .ok (.goto 4, 3) := by decide +kernel
theorem dX9_replies_18 : decode cX9_replies 18 = .ok (.lload_n 1, 1) := by decide +kernel
theorem dX9_replies_19 : decode cX9_replies 19 = .ok (.lstore 9, 2) := by decide +kernel
theorem dX9_replies_21 : decode cX9_replies 21 = .ok (.lload 7, 2) := by decide +kernel
theorem dX9_replies_23 : decode cX9_replies 23 = .ok (.lload_n 1, 1) := by decide +kernel
theorem dX9_replies_24 : decode cX9_replies 24 = .ok (.lload_n 3, 1) := by decide +kernel
theorem dX9_replies_25 : decode cX9_replies 25 = .ok (.invokestatic 156, 3) := by decide +kernel
theorem dX9_replies_28 : decode cX9_replies 28 = .ok (.lstore 11, 2) := by decide +kernel
theorem dX9_replies_30 : decode cX9_replies 30 = .ok (.lload 7, 2) := by decide +kernel
theorem dX9_replies_32 : decode cX9_replies 32 = .ok (.invokestatic 146, 3) := by decide +kernel
theorem dX9_replies_35 : decode cX9_replies 35 = .ok (.lload 9, 2) := by decide +kernel
theorem dX9_replies_37 : decode cX9_replies 37 = .ok (.land, 1) := by decide +kernel
theorem dX9_replies_38 : decode cX9_replies 38 = .ok (.lstore 13, 2) := by decide +kernel
theorem dX9_replies_40 : decode cX9_replies 40 = .ok (.lload 13, 2) := by decide +kernel
theorem dX9_replies_42 : decode cX9_replies 42 = .ok (.lconst 0, 1) := by decide +kernel
theorem dX9_replies_43 : decode cX9_replies 43 = .ok (.lcmp, 1) := by decide +kernel
theorem dX9_replies_44 : decode cX9_replies 44 = .ok (.ifCond .eq 59, 3) := by decide +kernel
theorem dX9_replies_47 : decode cX9_replies 47 = .ok (.lload 13, 2) := by decide +kernel
theorem dX9_replies_49 : decode cX9_replies 49 = .ok (.lload 13, 2) := by decide +kernel
theorem dX9_replies_51 : decode cX9_replies 51 = .ok (.lneg, 1) := by decide +kernel
theorem dX9_replies_52 : decode cX9_replies 52 = .ok (.land, 1) := by decide +kernel
theorem dX9_replies_53 : decode cX9_replies 53 = .ok (.lload 9, 2) := by decide +kernel
theorem dX9_replies_55 : decode cX9_replies 55 = .ok (.invokestatic 152, 3) := by decide +kernel
theorem dX9_replies_58 : decode cX9_replies 58 = .ok (.lstore 15, 2) := by decide +kernel
theorem dX9_replies_60 : decode cX9_replies 60 = .ok (.lload 13, 2) := by decide +kernel
theorem dX9_replies_62 : decode cX9_replies 62 = .ok (.lload 15, 2) := by decide +kernel
theorem dX9_replies_64 : decode cX9_replies 64 = .ok (.ldc2_w 150, 3) := by decide +kernel
theorem dX9_replies_67 : decode cX9_replies 67 = .ok (.lxor, 1) := by decide +kernel
theorem dX9_replies_68 : decode cX9_replies 68 = .ok (.land, 1) := by decide +kernel
theorem dX9_replies_69 : decode cX9_replies 69 = .ok (.lstore 13, 2) := by decide +kernel
theorem dX9_replies_71 : decode cX9_replies 71 = .ok (.lload 15, 2) := by decide +kernel
theorem dX9_replies_73 : decode cX9_replies 73 = .ok (.lload_n 1, 1) := by decide +kernel
theorem dX9_replies_74 : decode cX9_replies 74 = .ok (.lload_n 3, 1) := by decide +kernel
theorem dX9_replies_75 : decode cX9_replies 75 = .ok (.invokestatic 156, 3) := by decide +kernel
theorem dX9_replies_78 : decode cX9_replies 78 = .ok (.lstore 17, 2) := by decide +kernel
theorem dX9_replies_80 : decode cX9_replies 80 = .ok (.lload 11, 2) := by decide +kernel
theorem dX9_replies_82 : decode cX9_replies 82 = .ok (.lload 17, 2) := by decide +kernel
theorem dX9_replies_84 : decode cX9_replies 84 = .ok (.invokestatic 167, 3) := by decide +kernel
theorem dX9_replies_87 : decode cX9_replies 87 = .ok (.iconst 1, 1) := by decide +kernel
theorem dX9_replies_88 : decode cX9_replies 88 = .ok (.if_icmp .ne 8, 3) := by decide +kernel
theorem dX9_replies_91 : decode cX9_replies 91 = .ok (.lload 17, 2) := by decide +kernel
theorem dX9_replies_93 : decode cX9_replies 93 = .ok (.goto 4, 3) := by decide +kernel
theorem dX9_replies_96 : decode cX9_replies 96 = .ok (.lconst 0, 1) := by decide +kernel
theorem dX9_replies_97 : decode cX9_replies 97 = .ok (.lor, 1) := by decide +kernel
theorem dX9_replies_98 : decode cX9_replies 98 = .ok (.lstore 11, 2) := by decide +kernel
theorem dX9_replies_100 : decode cX9_replies 100 = .ok (.goto (-60), 3) := by decide +kernel
theorem dX9_replies_103 : decode cX9_replies 103 = .ok (.lload 11, 2) := by decide +kernel
theorem dX9_replies_105 : decode cX9_replies 105 = .ok (.lreturn, 1) := by decide +kernel
theorem dX9_lowest_0 : decode cX9_lowest 0 = .ok (.lload_n 0, 1) := by decide +kernel
theorem dX9_lowest_1 : decode cX9_lowest 1 = .ok (.lload_n 0, 1) := by decide +kernel
theorem dX9_lowest_2 : decode cX9_lowest 2 = .ok (.lneg, 1) := by decide +kernel
theorem dX9_lowest_3 : decode cX9_lowest 3 = .ok (.land, 1) := by decide +kernel
theorem dX9_lowest_4 : decode cX9_lowest 4 = .ok (.lconst 1, 1) := by decide +kernel
theorem dX9_lowest_5 : decode cX9_lowest 5 = .ok (.lsub, 1) := by decide +kernel
theorem dX9_lowest_6 : decode cX9_lowest 6 = .ok (.invokestatic 167, 3) := by decide +kernel
theorem dX9_lowest_9 : decode cX9_lowest 9 = .ok (.ireturn, 1) := by decide +kernel
theorem dX9_libertiesAt_0 : decode cX9_libertiesAt 0 = .ok (.lload_n 1, 1) := by decide +kernel
theorem dX9_libertiesAt_1 : decode cX9_libertiesAt 1 = .ok (.lload_n 3, 1) := by decide +kernel
theorem dX9_libertiesAt_2 : decode cX9_libertiesAt 2 = .ok (.iload 5, 2) := by decide +kernel
theorem dX9_libertiesAt_4 : decode cX9_libertiesAt 4 = .ok (.invokestatic 265, 3) := by decide +kernel
theorem dX9_libertiesAt_7 : decode cX9_libertiesAt 7 = .ok (.lload_n 1, 1) := by decide +kernel
theorem dX9_libertiesAt_8 : decode cX9_libertiesAt 8 = .ok (.lload_n 3, 1) := by decide +kernel
theorem dX9_libertiesAt_9 : decode cX9_libertiesAt 9 = .ok (.invokestatic 156, 3) := by decide +kernel
theorem dX9_libertiesAt_12 : decode cX9_libertiesAt 12 = .ok (.invokestatic 167, 3) := by decide +kernel
theorem dX9_libertiesAt_15 : decode cX9_libertiesAt 15 = .ok (.ireturn, 1) := by decide +kernel
theorem dX9_allowed_0 : decode cX9_allowed 0 = .ok (.lconst 0, 1) := by decide +kernel
theorem dX9_allowed_1 : decode cX9_allowed 1 = .ok (.lstore 8, 2) := by decide +kernel
theorem dX9_allowed_3 : decode cX9_allowed 3 = .ok (.lload 6, 2) := by decide +kernel
theorem dX9_allowed_5 : decode cX9_allowed 5 = .ok (.lstore 10, 2) := by decide +kernel
theorem dX9_allowed_7 : decode cX9_allowed 7 = .ok (.lload 10, 2) := by decide +kernel
theorem dX9_allowed_9 : decode cX9_allowed 9 = .ok (.lconst 0, 1) := by decide +kernel
theorem dX9_allowed_10 : decode cX9_allowed 10 = .ok (.lcmp, 1) := by decide +kernel
theorem dX9_allowed_11 : decode cX9_allowed 11 = .ok (.ifCond .eq 53, 3) := by decide +kernel
theorem dX9_allowed_14 : decode cX9_allowed 14 = .ok (.lload 10, 2) := by decide +kernel
theorem dX9_allowed_16 : decode cX9_allowed 16 = .ok (.invokestatic 285, 3) := by decide +kernel
theorem dX9_allowed_19 : decode cX9_allowed 19 = .ok (.istore 12, 2) := by decide +kernel
theorem dX9_allowed_21 : decode cX9_allowed 21 = .ok (.aload_n 0, 1) := by decide +kernel
theorem dX9_allowed_22 : decode cX9_allowed 22 = .ok (.lload_n 1, 1) := by decide +kernel
theorem dX9_allowed_23 : decode cX9_allowed 23 = .ok (.lload_n 3, 1) := by decide +kernel
theorem dX9_allowed_24 : decode cX9_allowed 24 = .ok (.iload 5, 2) := by decide +kernel
theorem dX9_allowed_26 : decode cX9_allowed 26 = .ok (.iload 12, 2) := by decide +kernel
theorem dX9_allowed_28 : decode cX9_allowed 28 = .ok (.invokevirtual 233, 3) := by decide +kernel
theorem dX9_allowed_31 : decode cX9_allowed 31 = .ok (.lload 8, 2) := by decide +kernel
theorem dX9_allowed_33 : decode cX9_allowed 33 = .ok (.aload_n 0, 1) := by decide +kernel
theorem dX9_allowed_34 : decode cX9_allowed 34 = .ok (.getfield 174, 3) := by decide +kernel
theorem dX9_allowed_37 : decode cX9_allowed 37 = .ok (.ifCond .eq 7, 3) := by decide +kernel
theorem dX9_allowed_40 : decode cX9_allowed 40 = .ok (.lconst 0, 1) := by decide +kernel
theorem dX9_allowed_41 : decode cX9_allowed 41 = .ok (.goto 8, 3) := by decide +kernel
theorem dX9_allowed_44 : decode cX9_allowed 44 = .ok (.iload 12, 2) := by decide +kernel
theorem dX9_allowed_46 : decode cX9_allowed 46 = .ok (.invokestatic 160, 3) := by decide +kernel
theorem dX9_allowed_49 : decode cX9_allowed 49 = .ok (.lor, 1) := by decide +kernel
theorem dX9_allowed_50 : decode cX9_allowed 50 = .ok (.lstore 8, 2) := by decide +kernel
theorem dX9_allowed_52 : decode cX9_allowed 52 = .ok (.lload 10, 2) := by decide +kernel
theorem dX9_allowed_54 : decode cX9_allowed 54 = .ok (.lload 10, 2) := by decide +kernel
theorem dX9_allowed_56 : decode cX9_allowed 56 = .ok (.lconst 1, 1) := by decide +kernel
theorem dX9_allowed_57 : decode cX9_allowed 57 = .ok (.lsub, 1) := by decide +kernel
theorem dX9_allowed_58 : decode cX9_allowed 58 = .ok (.land, 1) := by decide +kernel
theorem dX9_allowed_59 : decode cX9_allowed 59 = .ok (.lstore 10, 2) := by decide +kernel
theorem dX9_allowed_61 : decode cX9_allowed 61 = .ok (.goto (-54), 3) := by decide +kernel
theorem dX9_allowed_64 : decode cX9_allowed 64 = .ok (.lload 8, 2) := by decide +kernel
theorem dX9_allowed_66 : decode cX9_allowed 66 = .ok (.lreturn, 1) := by decide +kernel
theorem dX9_catches_0 : decode cX9_catches 0 = .ok (.lload_n 1, 1) := by decide +kernel
theorem dX9_catches_1 : decode cX9_catches 1 = .ok (.iload 5, 2) := by decide +kernel
theorem dX9_catches_3 : decode cX9_catches 3 = .ok (.invokestatic 160, 3) := by decide +kernel
theorem dX9_catches_6 : decode cX9_catches 6 = .ok (.land, 1) := by decide +kernel
theorem dX9_catches_7 : decode cX9_catches 7 = .ok (.lconst 0, 1) := by decide +kernel
theorem dX9_catches_8 : decode cX9_catches 8 = .ok (.lcmp, 1) := by decide +kernel
theorem dX9_catches_9 : decode cX9_catches 9 = .ok (.ifCond .eq 7, 3) := by decide +kernel
theorem dX9_catches_12 : decode cX9_catches 12 = .ok (.iconst 0, 1) := by decide +kernel
theorem dX9_catches_13 : decode cX9_catches 13 = .ok (.goto 4, 3) := by decide +kernel
theorem dX9_catches_16 : decode cX9_catches 16 = .ok (.iconst 1, 1) := by decide +kernel
theorem dX9_catches_17 : decode cX9_catches 17 = .ok (.istore 8, 2) := by decide +kernel
theorem dX9_catches_19 : decode cX9_catches 19 = .ok (.iconst 0, 1) := by decide +kernel
theorem dX9_catches_20 : decode cX9_catches 20 = .ok (.istore 9, 2) := by decide +kernel
theorem dX9_catches_22 : decode cX9_catches 22 = .ok (.aload_n 0, 1) := by decide +kernel
theorem dX9_catches_23 : decode cX9_catches 23 = .ok (.getfield 75, 3) := by decide +kernel
theorem dX9_catches_26 : decode cX9_catches 26 = .ok (.iconst 0, 1) := by decide +kernel
theorem dX9_catches_27 : decode cX9_catches 27 = .ok (.lload_n 1, 1) := by decide +kernel
theorem dX9_catches_28 : decode cX9_catches 28 = .ok (.lastore, 1) := by decide +kernel
theorem dX9_catches_29 : decode cX9_catches 29 = .ok (.aload_n 0, 1) := by decide +kernel
theorem dX9_catches_30 : decode cX9_catches 30 = .ok (.getfield 78, 3) := by decide +kernel
theorem dX9_catches_33 : decode cX9_catches 33 = .ok (.iconst 0, 1) := by decide +kernel
theorem dX9_catches_34 : decode cX9_catches 34 = .ok (.lload_n 3, 1) := by decide +kernel
theorem dX9_catches_35 : decode cX9_catches 35 = .ok (.lastore, 1) := by decide +kernel
theorem dX9_catches_36 : decode cX9_catches 36 = .ok (.iconst 0, 1) := by decide +kernel
theorem dX9_catches_37 : decode cX9_catches 37 = .ok (.istore 10, 2) := by decide +kernel
theorem dX9_catches_39 : decode cX9_catches 39 = .ok (.iload 6, 2) := by decide +kernel
theorem dX9_catches_41 : decode cX9_catches 41 = .ok (.iload 9, 2) := by decide +kernel
theorem dX9_catches_43 : decode cX9_catches 43 = .ok (.isub, 1) := by decide +kernel
theorem dX9_catches_44 : decode cX9_catches 44 = .ok (.istore 11, 2) := by decide +kernel
theorem dX9_catches_46 : decode cX9_catches 46 = .ok (.iload 10, 2) := by decide +kernel
theorem dX9_catches_48 : decode cX9_catches 48 = .ok (.ifCond .ne 80, 3) := by decide +kernel
theorem dX9_catches_51 : decode cX9_catches 51 = .ok (.aload_n 0, 1) := by decide +kernel
theorem dX9_catches_52 : decode cX9_catches 52 = .ok (.aload_n 0, 1) := by decide +kernel
theorem dX9_catches_53 : decode cX9_catches 53 = .ok (.getfield 75, 3) := by decide +kernel
theorem dX9_catches_56 : decode cX9_catches 56 = .ok (.iload 9, 2) := by decide +kernel
theorem dX9_catches_58 : decode cX9_catches 58 = .ok (.laload, 1) := by decide +kernel
theorem dX9_catches_59 : decode cX9_catches 59 = .ok (.aload_n 0, 1) := by decide +kernel
theorem dX9_catches_60 : decode cX9_catches 60 = .ok (.getfield 78, 3) := by decide +kernel
theorem dX9_catches_63 : decode cX9_catches 63 = .ok (.iload 9, 2) := by decide +kernel
theorem dX9_catches_65 : decode cX9_catches 65 = .ok (.laload, 1) := by decide +kernel
theorem dX9_catches_66 : decode cX9_catches 66 = .ok (.iload 5, 2) := by decide +kernel
theorem dX9_catches_68 : decode cX9_catches 68 = .ok (.invokevirtual 288, 3) := by decide +kernel
theorem dX9_catches_71 : decode cX9_catches 71 = .ok (.istore 12, 2) := by decide +kernel
theorem dX9_catches_73 : decode cX9_catches 73 = .ok (.aload_n 0, 1) := by decide +kernel
theorem dX9_catches_74 : decode cX9_catches 74 = .ok (.getfield 81, 3) := by decide +kernel
theorem dX9_catches_77 : decode cX9_catches 77 = .ok (.iload 9, 2) := by decide +kernel
theorem dX9_catches_79 : decode cX9_catches 79 = .ok (.iload 11, 2) := by decide +kernel
theorem dX9_catches_81 : decode cX9_catches 81 = .ok (.iconst 1, 1) := by decide +kernel
theorem dX9_catches_82 : decode cX9_catches 82 = .ok (.if_icmp .le 28, 3) := by decide +kernel
theorem dX9_catches_85 : decode cX9_catches 85 = .ok (.aload_n 0, 1) := by decide +kernel
theorem dX9_catches_86 : decode cX9_catches 86 = .ok (.aload_n 0, 1) := by decide +kernel
theorem dX9_catches_87 : decode cX9_catches 87 = .ok (.getfield 75, 3) := by decide +kernel
theorem dX9_catches_90 : decode cX9_catches 90 = .ok (.iload 9, 2) := by decide +kernel
theorem dX9_catches_92 : decode cX9_catches 92 = .ok (.laload, 1) := by decide +kernel
theorem dX9_catches_93 : decode cX9_catches 93 = .ok (.aload_n 0, 1) := by decide +kernel
theorem dX9_catches_94 : decode cX9_catches 94 = .ok (.getfield 78, 3) := by decide +kernel
theorem dX9_catches_97 : decode cX9_catches 97 = .ok (.iload 9, 2) := by decide +kernel
theorem dX9_catches_99 : decode cX9_catches 99 = .ok (.laload, 1) := by decide +kernel
theorem dX9_catches_100 : decode cX9_catches 100 = .ok (.iload 5, 2) := by decide +kernel
theorem dX9_catches_102 : decode cX9_catches 102 = .ok (.iload 7, 2) := by decide +kernel
theorem dX9_catches_104 : decode cX9_catches 104 = .ok (.invokevirtual 291, 3) := by decide +kernel
theorem dX9_catches_107 : decode cX9_catches 107 = .ok (.goto 4, 3) := by decide +kernel
theorem dX9_catches_110 : decode cX9_catches 110 = .ok (.lconst 0, 1) := by decide +kernel
theorem dX9_catches_111 : decode cX9_catches 111 = .ok (.lastore, 1) := by decide +kernel
theorem dX9_catches_112 : decode cX9_catches 112 = .ok (.iload 12, 2) := by decide +kernel
theorem dX9_catches_114 : decode cX9_catches 114 = .ok (.iconst 1, 1) := by decide +kernel
theorem dX9_catches_115 : decode cX9_catches 115 = .ok (.if_icmp .ne 7, 3) := by decide +kernel
theorem dX9_catches_118 : decode cX9_catches 118 = .ok (.iconst 3, 1) := by decide +kernel
theorem dX9_catches_119 : decode cX9_catches 119 = .ok (.goto 4, 3) := by decide +kernel
theorem dX9_catches_122 : decode cX9_catches 122 = .ok (.iconst 1, 1) := by decide +kernel
theorem dX9_catches_123 : decode cX9_catches 123 = .ok (.istore 10, 2) := by decide +kernel
theorem dX9_catches_125 : decode cX9_catches 125 = .ok (.goto 403, 3) := by decide +kernel
theorem dX9_catches_128 : decode cX9_catches 128 = .ok (.iload 10, 2) := by decide +kernel
theorem dX9_catches_130 : decode cX9_catches 130 = .ok (.iconst 1, 1) := by decide +kernel
theorem dX9_catches_131 : decode cX9_catches 131 = .ok (.if_icmp .ne 210, 3) := by decide +kernel
theorem dX9_catches_134 : decode cX9_catches 134 = .ok (.aload_n 0, 1) := by decide +kernel
theorem dX9_catches_135 : decode cX9_catches 135 = .ok (.getfield 81, 3) := by decide +kernel
theorem dX9_catches_138 : decode cX9_catches 138 = .ok (.iload 9, 2) := by decide +kernel
theorem dX9_catches_140 : decode cX9_catches 140 = .ok (.laload, 1) := by decide +kernel
theorem dX9_catches_141 : decode cX9_catches 141 = .ok (.lconst 0, 1) := by decide +kernel
theorem dX9_catches_142 : decode cX9_catches 142 = .ok (.lcmp, 1) := by decide +kernel
theorem dX9_catches_143 : decode cX9_catches 143 = .ok (.ifCond .ne 9, 3) := by decide +kernel
theorem dX9_catches_146 : decode cX9_catches 146 = .ok (.iconst 4, 1) := by decide +kernel
theorem dX9_catches_147 : decode cX9_catches 147 = .ok (.istore 10, 2) := by decide +kernel
theorem dX9_catches_149 : decode cX9_catches 149 = .ok (.goto 379, 3) := by decide +kernel
theorem dX9_catches_152 : decode cX9_catches 152 = .ok (.aload_n 0, 1) := by decide +kernel
theorem dX9_catches_153 : decode cX9_catches 153 = .ok (.getfield 81, 3) := by decide +kernel
theorem dX9_catches_156 : decode cX9_catches 156 = .ok (.iload 9, 2) := by decide +kernel
theorem dX9_catches_158 : decode cX9_catches 158 = .ok (.laload, 1) := by decide +kernel
theorem dX9_catches_159 : decode cX9_catches 159 = .ok (.invokestatic 285, 3) := by decide +kernel
theorem dX9_catches_162 : decode cX9_catches 162 = .ok (.istore 12, 2) := by decide +kernel
theorem dX9_catches_164 : decode cX9_catches 164 = .ok (.aload_n 0, 1) := by decide +kernel
theorem dX9_catches_165 : decode cX9_catches 165 = .ok (.getfield 81, 3) := by decide +kernel
theorem dX9_catches_168 : decode cX9_catches 168 = .ok (.iload 9, 2) := by decide +kernel
theorem dX9_catches_170 : decode cX9_catches 170 = .ok (.dup2, 1) := by decide +kernel
theorem dX9_catches_171 : decode cX9_catches 171 = .ok (.laload, 1) := by decide +kernel
theorem dX9_catches_172 : decode cX9_catches 172 = .ok (.aload_n 0, 1) := by decide +kernel
theorem dX9_catches_173 : decode cX9_catches 173 = .ok (.getfield 81, 3) := by decide +kernel
theorem dX9_catches_176 : decode cX9_catches 176 = .ok (.iload 9, 2) := by decide +kernel
theorem dX9_catches_178 : decode cX9_catches 178 = .ok (.laload, 1) := by decide +kernel
theorem dX9_catches_179 : decode cX9_catches 179 = .ok (.lconst 1, 1) := by decide +kernel
theorem dX9_catches_180 : decode cX9_catches 180 = .ok (.lsub, 1) := by decide +kernel
theorem dX9_catches_181 : decode cX9_catches 181 = .ok (.land, 1) := by decide +kernel
theorem dX9_catches_182 : decode cX9_catches 182 = .ok (.lastore, 1) := by decide +kernel
theorem dX9_catches_183 : decode cX9_catches 183 = .ok (.aload_n 0, 1) := by decide +kernel
theorem dX9_catches_184 : decode cX9_catches 184 = .ok (.aload_n 0, 1) := by decide +kernel
theorem dX9_catches_185 : decode cX9_catches 185 = .ok (.getfield 75, 3) := by decide +kernel
theorem dX9_catches_188 : decode cX9_catches 188 = .ok (.iload 9, 2) := by decide +kernel
theorem dX9_catches_190 : decode cX9_catches 190 = .ok (.laload, 1) := by decide +kernel
theorem dX9_catches_191 : decode cX9_catches 191 = .ok (.aload_n 0, 1) := by decide +kernel
theorem dX9_catches_192 : decode cX9_catches 192 = .ok (.getfield 78, 3) := by decide +kernel
theorem dX9_catches_195 : decode cX9_catches 195 = .ok (.iload 9, 2) := by decide +kernel
theorem dX9_catches_197 : decode cX9_catches 197 = .ok (.laload, 1) := by decide +kernel
theorem dX9_catches_198 : decode cX9_catches 198 = .ok (.iconst 1, 1) := by decide +kernel
theorem dX9_catches_199 : decode cX9_catches 199 = .ok (.iload 8, 2) := by decide +kernel
theorem dX9_catches_201 : decode cX9_catches 201 = .ok (.isub, 1) := by decide +kernel
theorem dX9_catches_202 : decode cX9_catches 202 = .ok (.iload 12, 2) := by decide +kernel
theorem dX9_catches_204 : decode cX9_catches 204 = .ok (.invokevirtual 233, 3) := by decide +kernel
theorem dX9_catches_207 : decode cX9_catches 207 = .ok (.aload_n 0, 1) := by decide +kernel
theorem dX9_catches_208 : decode cX9_catches 208 = .ok (.getfield 174, 3) := by decide +kernel
theorem dX9_catches_211 : decode cX9_catches 211 = .ok (.ifCond .eq 7, 3) := by decide +kernel
theorem dX9_catches_214 : decode cX9_catches 214 = .ok (.iconst 0, 1) := by decide +kernel
theorem dX9_catches_215 : decode cX9_catches 215 = .ok (.goto 17, 3) := by decide +kernel
theorem dX9_catches_218 : decode cX9_catches 218 = .ok (.aload_n 0, 1) := by decide +kernel
theorem dX9_catches_219 : decode cX9_catches 219 = .ok (.aload_n 0, 1) := by decide +kernel
theorem dX9_catches_220 : decode cX9_catches 220 = .ok (.getfield 178, 3) := by decide +kernel
theorem dX9_catches_223 : decode cX9_catches 223 = .ok (.aload_n 0, 1) := by decide +kernel
theorem dX9_catches_224 : decode cX9_catches 224 = .ok (.getfield 182, 3) := by decide +kernel
theorem dX9_catches_227 : decode cX9_catches 227 = .ok (.iload 5, 2) := by decide +kernel
theorem dX9_catches_229 : decode cX9_catches 229 = .ok (.invokevirtual 288, 3) := by decide +kernel
theorem dX9_catches_232 : decode cX9_catches 232 = .ok (.istore 13, 2) := by decide +kernel
theorem dX9_catches_234 : decode cX9_catches 234 = .ok (.iload 13, 2) := by decide +kernel
theorem dX9_catches_236 : decode cX9_catches 236 = .ok (.iconst 1, 1) := by decide +kernel
theorem dX9_catches_237 : decode cX9_catches 237 = .ok (.if_icmp .eq 15, 3) := by decide +kernel
theorem dX9_catches_240 : decode cX9_catches 240 = .ok (.iload 13, 2) := by decide +kernel
theorem dX9_catches_242 : decode cX9_catches 242 = .ok (.iconst 1, 1) := by decide +kernel
theorem dX9_catches_243 : decode cX9_catches 243 = .ok (.if_icmp .le 95, 3) := by decide +kernel
theorem dX9_catches_246 : decode cX9_catches 246 = .ok (.iload 7, 2) := by decide +kernel
theorem dX9_catches_248 : decode cX9_catches 248 = .ok (.iconst 2, 1) := by decide +kernel
theorem dX9_catches_249 : decode cX9_catches 249 = .ok (.if_icmp .le 89, 3) := by decide +kernel
theorem dX9_catches_252 : decode cX9_catches 252 = .ok (.aload_n 0, 1) := by decide +kernel
theorem dX9_catches_253 : decode cX9_catches 253 = .ok (.getfield 84, 3) := by decide +kernel
theorem dX9_catches_256 : decode cX9_catches 256 = .ok (.iload 9, 2) := by decide +kernel
theorem dX9_catches_258 : decode cX9_catches 258 = .ok (.aload_n 0, 1) := by decide +kernel
theorem dX9_catches_259 : decode cX9_catches 259 = .ok (.getfield 178, 3) := by decide +kernel
theorem dX9_catches_262 : decode cX9_catches 262 = .ok (.lastore, 1) := by decide +kernel
theorem dX9_catches_263 : decode cX9_catches 263 = .ok (.aload_n 0, 1) := by decide +kernel
theorem dX9_catches_264 : decode cX9_catches 264 = .ok (.getfield 87, 3) := by decide +kernel
theorem dX9_catches_267 : decode cX9_catches 267 = .ok (.iload 9, 2) := by decide +kernel
theorem dX9_catches_269 : decode cX9_catches 269 = .ok (.aload_n 0, 1) := by decide +kernel
theorem dX9_catches_270 : decode cX9_catches 270 = .ok (.getfield 182, 3) := by decide +kernel
theorem dX9_catches_273 : decode cX9_catches 273 = .ok (.lastore, 1) := by decide +kernel
theorem dX9_catches_274 : decode cX9_catches 274 = .ok (.aload_n 0, 1) := by decide +kernel
theorem dX9_catches_275 : decode cX9_catches 275 = .ok (.getfield 90, 3) := by decide +kernel
theorem dX9_catches_278 : decode cX9_catches 278 = .ok (.iload 9, 2) := by decide +kernel
theorem dX9_catches_280 : decode cX9_catches 280 = .ok (.aload_n 0, 1) := by decide +kernel
theorem dX9_catches_281 : decode cX9_catches 281 = .ok (.aload_n 0, 1) := by decide +kernel
theorem dX9_catches_282 : decode cX9_catches 282 = .ok (.getfield 178, 3) := by decide +kernel
theorem dX9_catches_285 : decode cX9_catches 285 = .ok (.aload_n 0, 1) := by decide +kernel
theorem dX9_catches_286 : decode cX9_catches 286 = .ok (.getfield 182, 3) := by decide +kernel
theorem dX9_catches_289 : decode cX9_catches 289 = .ok (.iload 8, 2) := by decide +kernel
theorem dX9_catches_291 : decode cX9_catches 291 = .ok (.aload_n 0, 1) := by decide +kernel
theorem dX9_catches_292 : decode cX9_catches 292 = .ok (.aload_n 0, 1) := by decide +kernel
theorem dX9_catches_293 : decode cX9_catches 293 = .ok (.getfield 178, 3) := by decide +kernel
theorem dX9_catches_296 : decode cX9_catches 296 = .ok (.aload_n 0, 1) := by decide +kernel
theorem dX9_catches_297 : decode cX9_catches 297 = .ok (.getfield 182, 3) := by decide +kernel
theorem dX9_catches_300 : decode cX9_catches 300 = .ok (.iload 5, 2) := by decide +kernel
theorem dX9_catches_302 : decode cX9_catches 302 = .ok (.iload 8, 2) := by decide +kernel
theorem dX9_catches_304 : decode cX9_catches 304 = .ok (.invokevirtual 295, 3) := by decide +kernel
theorem dX9_catches_307 : decode cX9_catches 307 = .ok (.invokevirtual 298, 3) := by decide +kernel
theorem dX9_catches_310 : decode cX9_catches 310 = .ok (.lastore, 1) := by decide +kernel
theorem dX9_catches_311 : decode cX9_catches 311 = .ok (.aload_n 0, 1) := by decide +kernel
theorem dX9_catches_312 : decode cX9_catches 312 = .ok (.getfield 93, 3) := by decide +kernel
theorem dX9_catches_315 : decode cX9_catches 315 = .ok (.iload 9, 2) := by decide +kernel
theorem dX9_catches_317 : decode cX9_catches 317 = .ok (.aload_n 0, 1) := by decide +kernel
theorem dX9_catches_318 : decode cX9_catches 318 = .ok (.getfield 90, 3) := by decide +kernel
theorem dX9_catches_321 : decode cX9_catches 321 = .ok (.iload 9, 2) := by decide +kernel
theorem dX9_catches_323 : decode cX9_catches 323 = .ok (.laload, 1) := by decide +kernel
theorem dX9_catches_324 : decode cX9_catches 324 = .ok (.lconst 0, 1) := by decide +kernel
theorem dX9_catches_325 : decode cX9_catches 325 = .ok (.lcmp, 1) := by decide +kernel
theorem dX9_catches_326 : decode cX9_catches 326 = .ok (.ifCond .ne 7, 3) := by decide +kernel
theorem dX9_catches_329 : decode cX9_catches 329 = .ok (.iconst 1, 1) := by decide +kernel
theorem dX9_catches_330 : decode cX9_catches 330 = .ok (.goto 4, 3) := by decide +kernel
theorem dX9_catches_333 : decode cX9_catches 333 = .ok (.iconst 0, 1) := by decide +kernel
theorem dX9_catches_334 : decode cX9_catches 334 = .ok (.bastore, 1) := by decide +kernel
theorem dX9_catches_335 : decode cX9_catches 335 = .ok (.iconst 2, 1) := by decide +kernel
theorem dX9_catches_336 : decode cX9_catches 336 = .ok (.istore 10, 2) := by decide +kernel
theorem dX9_catches_338 : decode cX9_catches 338 = .ok (.goto 190, 3) := by decide +kernel
theorem dX9_catches_341 : decode cX9_catches 341 = .ok (.iload 10, 2) := by decide +kernel
theorem dX9_catches_343 : decode cX9_catches 343 = .ok (.iconst 2, 1) := by decide +kernel
theorem dX9_catches_344 : decode cX9_catches 344 = .ok (.if_icmp .ne 151, 3) := by decide +kernel
theorem dX9_catches_347 : decode cX9_catches 347 = .ok (.aload_n 0, 1) := by decide +kernel
theorem dX9_catches_348 : decode cX9_catches 348 = .ok (.getfield 90, 3) := by decide +kernel
theorem dX9_catches_351 : decode cX9_catches 351 = .ok (.iload 9, 2) := by decide +kernel
theorem dX9_catches_353 : decode cX9_catches 353 = .ok (.laload, 1) := by decide +kernel
theorem dX9_catches_354 : decode cX9_catches 354 = .ok (.lconst 0, 1) := by decide +kernel
theorem dX9_catches_355 : decode cX9_catches 355 = .ok (.lcmp, 1) := by decide +kernel
theorem dX9_catches_356 : decode cX9_catches 356 = .ok (.ifCond .ne 19, 3) := by decide +kernel
theorem dX9_catches_359 : decode cX9_catches 359 = .ok (.aload_n 0, 1) := by decide +kernel
theorem dX9_catches_360 : decode cX9_catches 360 = .ok (.getfield 93, 3) := by decide +kernel
theorem dX9_catches_363 : decode cX9_catches 363 = .ok (.iload 9, 2) := by decide +kernel
theorem dX9_catches_365 : decode cX9_catches 365 = .ok (.baload, 1) := by decide +kernel
theorem dX9_catches_366 : decode cX9_catches 366 = .ok (.ifCond .ne 9, 3) := by decide +kernel
theorem dX9_catches_369 : decode cX9_catches 369 = .ok (.iconst 3, 1) := by decide +kernel
theorem dX9_catches_370 : decode cX9_catches 370 = .ok (.istore 10, 2) := by decide +kernel
theorem dX9_catches_372 : decode cX9_catches 372 = .ok (.goto 156, 3) := by decide +kernel
theorem dX9_catches_375 : decode cX9_catches 375 = .ok (.aload_n 0, 1) := by decide +kernel
theorem dX9_catches_376 : decode cX9_catches 376 = .ok (.aload_n 0, 1) := by decide +kernel
theorem dX9_catches_377 : decode cX9_catches 377 = .ok (.getfield 84, 3) := by decide +kernel
theorem dX9_catches_380 : decode cX9_catches 380 = .ok (.iload 9, 2) := by decide +kernel
theorem dX9_catches_382 : decode cX9_catches 382 = .ok (.laload, 1) := by decide +kernel
theorem dX9_catches_383 : decode cX9_catches 383 = .ok (.putfield 178, 3) := by decide +kernel
theorem dX9_catches_386 : decode cX9_catches 386 = .ok (.aload_n 0, 1) := by decide +kernel
theorem dX9_catches_387 : decode cX9_catches 387 = .ok (.aload_n 0, 1) := by decide +kernel
theorem dX9_catches_388 : decode cX9_catches 388 = .ok (.getfield 87, 3) := by decide +kernel
theorem dX9_catches_391 : decode cX9_catches 391 = .ok (.iload 9, 2) := by decide +kernel
theorem dX9_catches_393 : decode cX9_catches 393 = .ok (.laload, 1) := by decide +kernel
theorem dX9_catches_394 : decode cX9_catches 394 = .ok (.putfield 182, 3) := by decide +kernel
theorem dX9_catches_397 : decode cX9_catches 397 = .ok (.aload_n 0, 1) := by decide +kernel
theorem dX9_catches_398 : decode cX9_catches 398 = .ok (.getfield 93, 3) := by decide +kernel
theorem dX9_catches_401 : decode cX9_catches 401 = .ok (.iload 9, 2) := by decide +kernel
theorem dX9_catches_403 : decode cX9_catches 403 = .ok (.baload, 1) := by decide +kernel
theorem dX9_catches_404 : decode cX9_catches 404 = .ok (.ifCond .ne 52, 3) := by decide +kernel
theorem dX9_catches_407 : decode cX9_catches 407 = .ok (.aload_n 0, 1) := by decide +kernel
theorem dX9_catches_408 : decode cX9_catches 408 = .ok (.aload_n 0, 1) := by decide +kernel
theorem dX9_catches_409 : decode cX9_catches 409 = .ok (.getfield 84, 3) := by decide +kernel
theorem dX9_catches_412 : decode cX9_catches 412 = .ok (.iload 9, 2) := by decide +kernel
theorem dX9_catches_414 : decode cX9_catches 414 = .ok (.laload, 1) := by decide +kernel
theorem dX9_catches_415 : decode cX9_catches 415 = .ok (.aload_n 0, 1) := by decide +kernel
theorem dX9_catches_416 : decode cX9_catches 416 = .ok (.getfield 87, 3) := by decide +kernel
theorem dX9_catches_419 : decode cX9_catches 419 = .ok (.iload 9, 2) := by decide +kernel
theorem dX9_catches_421 : decode cX9_catches 421 = .ok (.laload, 1) := by decide +kernel
theorem dX9_catches_422 : decode cX9_catches 422 = .ok (.iload 8, 2) := by decide +kernel
theorem dX9_catches_424 : decode cX9_catches 424 = .ok (.aload_n 0, 1) := by decide +kernel
theorem dX9_catches_425 : decode cX9_catches 425 = .ok (.getfield 90, 3) := by decide +kernel
theorem dX9_catches_428 : decode cX9_catches 428 = .ok (.iload 9, 2) := by decide +kernel
theorem dX9_catches_430 : decode cX9_catches 430 = .ok (.laload, 1) := by decide +kernel
theorem dX9_catches_431 : decode cX9_catches 431 = .ok (.invokestatic 285, 3) := by decide +kernel
theorem dX9_catches_434 : decode cX9_catches 434 = .ok (.invokevirtual 233, 3) := by decide +kernel
theorem dX9_catches_437 : decode cX9_catches 437 = .ok (.aload_n 0, 1) := by decide +kernel
theorem dX9_catches_438 : decode cX9_catches 438 = .ok (.getfield 90, 3) := by decide +kernel
theorem dX9_catches_441 : decode cX9_catches 441 = .ok (.iload 9, 2) := by decide +kernel
theorem dX9_catches_443 : decode cX9_catches 443 = .ok (.dup2, 1) := by decide +kernel
theorem dX9_catches_444 : decode cX9_catches 444 = .ok (.laload, 1) := by decide +kernel
theorem dX9_catches_445 : decode cX9_catches 445 = .ok (.aload_n 0, 1) := by decide +kernel
theorem dX9_catches_446 : decode cX9_catches 446 = .ok (.getfield 90, 3) := by decide +kernel
theorem dX9_catches_449 : decode cX9_catches 449 = .ok (.iload 9, 2) := by decide +kernel
theorem dX9_catches_451 : decode cX9_catches 451 = .ok (.laload, 1) := by decide +kernel
theorem dX9_catches_452 : decode cX9_catches 452 = .ok (.lconst 1, 1) := by decide +kernel
theorem dX9_catches_453 : decode cX9_catches 453 = .ok (.lsub, 1) := by decide +kernel
theorem dX9_catches_454 : decode cX9_catches 454 = .ok (.land, 1) := by decide +kernel
theorem dX9_catches_455 : decode cX9_catches 455 = .ok (.lastore, 1) := by decide +kernel
theorem dX9_catches_456 : decode cX9_catches 456 = .ok (.aload_n 0, 1) := by decide +kernel
theorem dX9_catches_457 : decode cX9_catches 457 = .ok (.getfield 93, 3) := by decide +kernel
theorem dX9_catches_460 : decode cX9_catches 460 = .ok (.iload 9, 2) := by decide +kernel
theorem dX9_catches_462 : decode cX9_catches 462 = .ok (.iconst 0, 1) := by decide +kernel
theorem dX9_catches_463 : decode cX9_catches 463 = .ok (.bastore, 1) := by decide +kernel
theorem dX9_catches_464 : decode cX9_catches 464 = .ok (.iinc 9 1, 3) := by decide +kernel
theorem dX9_catches_467 : decode cX9_catches 467 = .ok (.aload_n 0, 1) := by decide +kernel
theorem dX9_catches_468 : decode cX9_catches 468 = .ok (.getfield 75, 3) := by decide +kernel
theorem dX9_catches_471 : decode cX9_catches 471 = .ok (.iload 9, 2) := by decide +kernel
theorem dX9_catches_473 : decode cX9_catches 473 = .ok (.aload_n 0, 1) := by decide +kernel
theorem dX9_catches_474 : decode cX9_catches 474 = .ok (.getfield 178, 3) := by decide +kernel
theorem dX9_catches_477 : decode cX9_catches 477 = .ok (.lastore, 1) := by decide +kernel
theorem dX9_catches_478 : decode cX9_catches 478 = .ok (.aload_n 0, 1) := by decide +kernel
theorem dX9_catches_479 : decode cX9_catches 479 = .ok (.getfield 78, 3) := by decide +kernel
theorem dX9_catches_482 : decode cX9_catches 482 = .ok (.iload 9, 2) := by decide +kernel
theorem dX9_catches_484 : decode cX9_catches 484 = .ok (.aload_n 0, 1) := by decide +kernel
theorem dX9_catches_485 : decode cX9_catches 485 = .ok (.getfield 182, 3) := by decide +kernel
theorem dX9_catches_488 : decode cX9_catches 488 = .ok (.lastore, 1) := by decide +kernel
theorem dX9_catches_489 : decode cX9_catches 489 = .ok (.iconst 0, 1) := by decide +kernel
theorem dX9_catches_490 : decode cX9_catches 490 = .ok (.istore 10, 2) := by decide +kernel
theorem dX9_catches_492 : decode cX9_catches 492 = .ok (.goto 36, 3) := by decide +kernel
theorem dX9_catches_495 : decode cX9_catches 495 = .ok (.iload 9, 2) := by decide +kernel
theorem dX9_catches_497 : decode cX9_catches 497 = .ok (.ifCond .ne 15, 3) := by decide +kernel
theorem dX9_catches_500 : decode cX9_catches 500 = .ok (.iload 10, 2) := by decide +kernel
theorem dX9_catches_502 : decode cX9_catches 502 = .ok (.iconst 3, 1) := by decide +kernel
theorem dX9_catches_503 : decode cX9_catches 503 = .ok (.if_icmp .ne 7, 3) := by decide +kernel
theorem dX9_catches_506 : decode cX9_catches 506 = .ok (.iconst 1, 1) := by decide +kernel
theorem dX9_catches_507 : decode cX9_catches 507 = .ok (.goto 4, 3) := by decide +kernel
theorem dX9_catches_510 : decode cX9_catches 510 = .ok (.iconst 0, 1) := by decide +kernel
theorem dX9_catches_511 : decode cX9_catches 511 = .ok (.ireturn, 1) := by decide +kernel
theorem dX9_catches_512 : decode cX9_catches 512 = .ok (.iinc 9 (-1), 3) := by decide +kernel
theorem dX9_catches_515 : decode cX9_catches 515 = .ok (.iload 10, 2) := by decide +kernel
theorem dX9_catches_517 : decode cX9_catches 517 = .ok (.iconst 3, 1) := by decide +kernel
theorem dX9_catches_518 : decode cX9_catches 518 = .ok (.if_icmp .ne 7, 3) := by decide +kernel
theorem dX9_catches_521 : decode cX9_catches 521 = .ok (.iconst 2, 1) := by decide +kernel
theorem dX9_catches_522 : decode cX9_catches 522 = .ok (.goto 4, 3) := by decide +kernel
theorem dX9_catches_525 : decode cX9_catches 525 = .ok (.iconst 1, 1) := by decide +kernel
theorem dX9_catches_526 : decode cX9_catches 526 = .ok (.istore 10, 2) := by decide +kernel
theorem dX9_catches_528 : decode cX9_catches 528 = .ok (.goto (-489), 3) := by decide +kernel
theorem dX9_reads_0 : decode cX9_reads 0 = .ok (.aload_n 0, 1) := by decide +kernel
theorem dX9_reads_1 : decode cX9_reads 1 = .ok (.getfield 65, 3) := by decide +kernel
theorem dX9_reads_4 : decode cX9_reads 4 = .ok (.aload_n 0, 1) := by decide +kernel
theorem dX9_reads_5 : decode cX9_reads 5 = .ok (.getfield 44, 3) := by decide +kernel
theorem dX9_reads_8 : decode cX9_reads 8 = .ok (.iload_n 1, 1) := by decide +kernel
theorem dX9_reads_9 : decode cX9_reads 9 = .ok (.iaload, 1) := by decide +kernel
theorem dX9_reads_10 : decode cX9_reads 10 = .ok (.laload, 1) := by decide +kernel
theorem dX9_reads_11 : decode cX9_reads 11 = .ok (.lstore 5, 2) := by decide +kernel
theorem dX9_reads_13 : decode cX9_reads 13 = .ok (.aload_n 0, 1) := by decide +kernel
theorem dX9_reads_14 : decode cX9_reads 14 = .ok (.getfield 69, 3) := by decide +kernel
theorem dX9_reads_17 : decode cX9_reads 17 = .ok (.aload_n 0, 1) := by decide +kernel
theorem dX9_reads_18 : decode cX9_reads 18 = .ok (.getfield 44, 3) := by decide +kernel
theorem dX9_reads_21 : decode cX9_reads 21 = .ok (.iload_n 1, 1) := by decide +kernel
theorem dX9_reads_22 : decode cX9_reads 22 = .ok (.iaload, 1) := by decide +kernel
theorem dX9_reads_23 : decode cX9_reads 23 = .ok (.laload, 1) := by decide +kernel
theorem dX9_reads_24 : decode cX9_reads 24 = .ok (.lstore 7, 2) := by decide +kernel
theorem dX9_reads_26 : decode cX9_reads 26 = .ok (.aload_n 0, 1) := by decide +kernel
theorem dX9_reads_27 : decode cX9_reads 27 = .ok (.lload 5, 2) := by decide +kernel
theorem dX9_reads_29 : decode cX9_reads 29 = .ok (.lload 7, 2) := by decide +kernel
theorem dX9_reads_31 : decode cX9_reads 31 = .ok (.iload_n 2, 1) := by decide +kernel
theorem dX9_reads_32 : decode cX9_reads 32 = .ok (.invokevirtual 229, 3) := by decide +kernel
theorem dX9_reads_35 : decode cX9_reads 35 = .ok (.ifCond .ne 22, 3) := by decide +kernel
theorem dX9_reads_38 : decode cX9_reads 38 = .ok (.aload_n 0, 1) := by decide +kernel
theorem dX9_reads_39 : decode cX9_reads 39 = .ok (.lload 5, 2) := by decide +kernel
theorem dX9_reads_41 : decode cX9_reads 41 = .ok (.lload 7, 2) := by decide +kernel
theorem dX9_reads_43 : decode cX9_reads 43 = .ok (.iload_n 2, 1) := by decide +kernel
theorem dX9_reads_44 : decode cX9_reads 44 = .ok (.iload_n 3, 1) := by decide +kernel
theorem dX9_reads_45 : decode cX9_reads 45 = .ok (.iload 4, 2) := by decide +kernel
theorem dX9_reads_47 : decode cX9_reads 47 = .ok (.invokevirtual 302, 3) := by decide +kernel
theorem dX9_reads_50 : decode cX9_reads 50 = .ok (.ifCond .eq 7, 3) := by decide +kernel
theorem dX9_reads_53 : decode cX9_reads 53 = .ok (.iconst 1, 1) := by decide +kernel
theorem dX9_reads_54 : decode cX9_reads 54 = .ok (.goto 4, 3) := by decide +kernel
theorem dX9_reads_57 : decode cX9_reads 57 = .ok (.iconst 0, 1) := by decide +kernel
theorem dX9_reads_58 : decode cX9_reads 58 = .ok (.ireturn, 1) := by decide +kernel
theorem dX9_ladder_0 : decode cX9_ladder 0 = .ok (.aload_n 0, 1) := by decide +kernel
theorem dX9_ladder_1 : decode cX9_ladder 1 = .ok (.iload_n 1, 1) := by decide +kernel
theorem dX9_ladder_2 : decode cX9_ladder 2 = .ok (.invokevirtual 241, 3) := by decide +kernel
theorem dX9_ladder_5 : decode cX9_ladder 5 = .ok (.ifCond .eq 14, 3) := by decide +kernel
theorem dX9_ladder_8 : decode cX9_ladder 8 = .ok (.iload_n 2, 1) := by decide +kernel
theorem dX9_ladder_9 : decode cX9_ladder 9 = .ok (.invokestatic 244, 3) := by decide +kernel
theorem dX9_ladder_12 : decode cX9_ladder 12 = .ok (.ifCond .eq 7, 3) := by decide +kernel
theorem dX9_ladder_15 : decode cX9_ladder 15 = .ok (.iconst 1, 1) := by decide +kernel
theorem dX9_ladder_16 : decode cX9_ladder 16 = .ok (.goto 4, 3) := by decide +kernel
theorem dX9_ladder_19 : decode cX9_ladder 19 = .ok (.iconst 0, 1) := by decide +kernel
theorem dX9_ladder_20 : decode cX9_ladder 20 = .ok (.istore 4, 2) := by decide +kernel
theorem dX9_ladder_22 : decode cX9_ladder 22 = .ok (.aload_n 0, 1) := by decide +kernel
theorem dX9_ladder_23 : decode cX9_ladder 23 = .ok (.iload 4, 2) := by decide +kernel
theorem dX9_ladder_25 : decode cX9_ladder 25 = .ok (.ifCond .ne 7, 3) := by decide +kernel
theorem dX9_ladder_28 : decode cX9_ladder 28 = .ok (.iconst 1, 1) := by decide +kernel
theorem dX9_ladder_29 : decode cX9_ladder 29 = .ok (.goto 18, 3) := by decide +kernel
theorem dX9_ladder_32 : decode cX9_ladder 32 = .ok (.iload_n 3, 1) := by decide +kernel
theorem dX9_ladder_33 : decode cX9_ladder 33 = .ok (.iconst 1, 1) := by decide +kernel
theorem dX9_ladder_34 : decode cX9_ladder 34 = .ok (.bipush 8, 2) := by decide +kernel
theorem dX9_ladder_36 : decode cX9_ladder 36 = .ok (.invokestatic 133, 3) := by decide +kernel
theorem dX9_ladder_39 : decode cX9_ladder 39 = .ok (.ifCond .eq 7, 3) := by decide +kernel
theorem dX9_ladder_42 : decode cX9_ladder 42 = .ok (.iconst 0, 1) := by decide +kernel
theorem dX9_ladder_43 : decode cX9_ladder 43 = .ok (.goto 4, 3) := by decide +kernel
theorem dX9_ladder_46 : decode cX9_ladder 46 = .ok (.iconst 2, 1) := by decide +kernel
theorem dX9_ladder_47 : decode cX9_ladder 47 = .ok (.invokevirtual 185, 3) := by decide +kernel
theorem dX9_ladder_50 : decode cX9_ladder 50 = .ok (.ifCond .ne 18, 3) := by decide +kernel
theorem dX9_ladder_53 : decode cX9_ladder 53 = .ok (.aload_n 0, 1) := by decide +kernel
theorem dX9_ladder_54 : decode cX9_ladder 54 = .ok (.iload_n 1, 1) := by decide +kernel
theorem dX9_ladder_55 : decode cX9_ladder 55 = .ok (.iload_n 2, 1) := by decide +kernel
theorem dX9_ladder_56 : decode cX9_ladder 56 = .ok (.iload_n 3, 1) := by decide +kernel
theorem dX9_ladder_57 : decode cX9_ladder 57 = .ok (.iconst 2, 1) := by decide +kernel
theorem dX9_ladder_58 : decode cX9_ladder 58 = .ok (.invokevirtual 306, 3) := by decide +kernel
theorem dX9_ladder_61 : decode cX9_ladder 61 = .ok (.ifCond .eq 7, 3) := by decide +kernel
theorem dX9_ladder_64 : decode cX9_ladder 64 = .ok (.iconst 1, 1) := by decide +kernel
theorem dX9_ladder_65 : decode cX9_ladder 65 = .ok (.goto 4, 3) := by decide +kernel
theorem dX9_ladder_68 : decode cX9_ladder 68 = .ok (.iconst 0, 1) := by decide +kernel
theorem dX9_ladder_69 : decode cX9_ladder 69 = .ok (.ireturn, 1) := by decide +kernel
theorem dX9_net_0 : decode cX9_net 0 = .ok (.aload_n 0, 1) := by decide +kernel
theorem dX9_net_1 : decode cX9_net 1 = .ok (.iload_n 1, 1) := by decide +kernel
theorem dX9_net_2 : decode cX9_net 2 = .ok (.invokevirtual 241, 3) := by decide +kernel
theorem dX9_net_5 : decode cX9_net 5 = .ok (.ifCond .eq 14, 3) := by decide +kernel
theorem dX9_net_8 : decode cX9_net 8 = .ok (.iload_n 2, 1) := by decide +kernel
theorem dX9_net_9 : decode cX9_net 9 = .ok (.invokestatic 244, 3) := by decide +kernel
theorem dX9_net_12 : decode cX9_net 12 = .ok (.ifCond .eq 7, 3) := by decide +kernel
theorem dX9_net_15 : decode cX9_net 15 = .ok (.iconst 1, 1) := by decide +kernel
theorem dX9_net_16 : decode cX9_net 16 = .ok (.goto 4, 3) := by decide +kernel
theorem dX9_net_19 : decode cX9_net 19 = .ok (.iconst 0, 1) := by decide +kernel
theorem dX9_net_20 : decode cX9_net 20 = .ok (.istore 4, 2) := by decide +kernel
theorem dX9_net_22 : decode cX9_net 22 = .ok (.aload_n 0, 1) := by decide +kernel
theorem dX9_net_23 : decode cX9_net 23 = .ok (.iload 4, 2) := by decide +kernel
theorem dX9_net_25 : decode cX9_net 25 = .ok (.ifCond .ne 7, 3) := by decide +kernel
theorem dX9_net_28 : decode cX9_net 28 = .ok (.iconst 1, 1) := by decide +kernel
theorem dX9_net_29 : decode cX9_net 29 = .ok (.goto 17, 3) := by decide +kernel
theorem dX9_net_32 : decode cX9_net 32 = .ok (.iload_n 3, 1) := by decide +kernel
theorem dX9_net_33 : decode cX9_net 33 = .ok (.iconst 1, 1) := by decide +kernel
theorem dX9_net_34 : decode cX9_net 34 = .ok (.iconst 3, 1) := by decide +kernel
theorem dX9_net_35 : decode cX9_net 35 = .ok (.invokestatic 133, 3) := by decide +kernel
theorem dX9_net_38 : decode cX9_net 38 = .ok (.ifCond .eq 7, 3) := by decide +kernel
theorem dX9_net_41 : decode cX9_net 41 = .ok (.iconst 0, 1) := by decide +kernel
theorem dX9_net_42 : decode cX9_net 42 = .ok (.goto 4, 3) := by decide +kernel
theorem dX9_net_45 : decode cX9_net 45 = .ok (.iconst 2, 1) := by decide +kernel
theorem dX9_net_46 : decode cX9_net 46 = .ok (.invokevirtual 185, 3) := by decide +kernel
theorem dX9_net_49 : decode cX9_net 49 = .ok (.ifCond .ne 18, 3) := by decide +kernel
theorem dX9_net_52 : decode cX9_net 52 = .ok (.aload_n 0, 1) := by decide +kernel
theorem dX9_net_53 : decode cX9_net 53 = .ok (.iload_n 1, 1) := by decide +kernel
theorem dX9_net_54 : decode cX9_net 54 = .ok (.iload_n 2, 1) := by decide +kernel
theorem dX9_net_55 : decode cX9_net 55 = .ok (.iload_n 3, 1) := by decide +kernel
theorem dX9_net_56 : decode cX9_net 56 = .ok (.iconst 3, 1) := by decide +kernel
theorem dX9_net_57 : decode cX9_net 57 = .ok (.invokevirtual 306, 3) := by decide +kernel
theorem dX9_net_60 : decode cX9_net 60 = .ok (.ifCond .eq 7, 3) := by decide +kernel
theorem dX9_net_63 : decode cX9_net 63 = .ok (.iconst 1, 1) := by decide +kernel
theorem dX9_net_64 : decode cX9_net 64 = .ok (.goto 4, 3) := by decide +kernel
theorem dX9_net_67 : decode cX9_net 67 = .ok (.iconst 0, 1) := by decide +kernel
theorem dX9_net_68 : decode cX9_net 68 = .ok (.ireturn, 1) := by decide +kernel
theorem dX9_isNode_0 : decode cX9_isNode 0 = .ok (.iload_n 1, 1) := by decide +kernel
theorem dX9_isNode_1 : decode cX9_isNode 1 = .ok (.iconst 0, 1) := by decide +kernel
theorem dX9_isNode_2 : decode cX9_isNode 2 = .ok (.aload_n 0, 1) := by decide +kernel
theorem dX9_isNode_3 : decode cX9_isNode 3 = .ok (.getfield 310, 3) := by decide +kernel
theorem dX9_isNode_6 : decode cX9_isNode 6 = .ok (.iconst 1, 1) := by decide +kernel
theorem dX9_isNode_7 : decode cX9_isNode 7 = .ok (.isub, 1) := by decide +kernel
theorem dX9_isNode_8 : decode cX9_isNode 8 = .ok (.invokestatic 133, 3) := by decide +kernel
theorem dX9_isNode_11 : decode cX9_isNode 11 = .ok (.ireturn, 1) := by decide +kernel
theorem dX9_position_0 : decode cX9_position 0 = .ok (.aload_n 0, 1) := by decide +kernel
theorem dX9_position_1 : decode cX9_position 1 = .ok (.getfield 44, 3) := by decide +kernel
theorem dX9_position_4 : decode cX9_position 4 = .ok (.iload_n 1, 1) := by decide +kernel
theorem dX9_position_5 : decode cX9_position 5 = .ok (.iaload, 1) := by decide +kernel
theorem dX9_position_6 : decode cX9_position 6 = .ok (.istore_n 3, 1) := by decide +kernel
theorem dX9_position_7 : decode cX9_position 7 = .ok (.aload_n 0, 1) := by decide +kernel
theorem dX9_position_8 : decode cX9_position 8 = .ok (.getfield 47, 3) := by decide +kernel
theorem dX9_position_11 : decode cX9_position 11 = .ok (.iload_n 1, 1) := by decide +kernel
theorem dX9_position_12 : decode cX9_position 12 = .ok (.iaload, 1) := by decide +kernel
theorem dX9_position_13 : decode cX9_position 13 = .ok (.istore 4, 2) := by decide +kernel
theorem dX9_position_15 : decode cX9_position 15 = .ok (.iload 4, 2) := by decide +kernel
theorem dX9_position_17 : decode cX9_position 17 = .ok (.iload_n 2, 1) := by decide +kernel
theorem dX9_position_18 : decode cX9_position 18 = .ok (.if_icmp .le 16, 3) := by decide +kernel
theorem dX9_position_21 : decode cX9_position 21 = .ok (.aload_n 0, 1) := by decide +kernel
theorem dX9_position_22 : decode cX9_position 22 = .ok (.getfield 72, 3) := by decide +kernel
theorem dX9_position_25 : decode cX9_position 25 = .ok (.iload_n 3, 1) := by decide +kernel
theorem dX9_position_26 : decode cX9_position 26 = .ok (.iaload, 1) := by decide +kernel
theorem dX9_position_27 : decode cX9_position 27 = .ok (.istore_n 3, 1) := by decide +kernel
theorem dX9_position_28 : decode cX9_position 28 = .ok (.iinc 4 (-1), 3) := by decide +kernel
theorem dX9_position_31 : decode cX9_position 31 = .ok (.goto (-16), 3) := by decide +kernel
theorem dX9_position_34 : decode cX9_position 34 = .ok (.iload_n 3, 1) := by decide +kernel
theorem dX9_position_35 : decode cX9_position 35 = .ok (.ireturn, 1) := by decide +kernel
theorem dX9_makes_0 : decode cX9_makes 0 = .ok (.aload_n 0, 1) := by decide +kernel
theorem dX9_makes_1 : decode cX9_makes 1 = .ok (.getfield 96, 3) := by decide +kernel
theorem dX9_makes_4 : decode cX9_makes 4 = .ok (.aload_n 0, 1) := by decide +kernel
theorem dX9_makes_5 : decode cX9_makes 5 = .ok (.getfield 310, 3) := by decide +kernel
theorem dX9_makes_8 : decode cX9_makes 8 = .ok (.iload_n 1, 1) := by decide +kernel
theorem dX9_makes_9 : decode cX9_makes 9 = .ok (.iastore, 1) := by decide +kernel
theorem dX9_makes_10 : decode cX9_makes 10 = .ok (.aload_n 0, 1) := by decide +kernel
theorem dX9_makes_11 : decode cX9_makes 11 = .ok (.getfield 102, 3) := by decide +kernel
theorem dX9_makes_14 : decode cX9_makes 14 = .ok (.aload_n 0, 1) := by decide +kernel
theorem dX9_makes_15 : decode cX9_makes 15 = .ok (.getfield 310, 3) := by decide +kernel
theorem dX9_makes_18 : decode cX9_makes 18 = .ok (.iload_n 2, 1) := by decide +kernel
theorem dX9_makes_19 : decode cX9_makes 19 = .ok (.iastore, 1) := by decide +kernel
theorem dX9_makes_20 : decode cX9_makes 20 = .ok (.aload_n 0, 1) := by decide +kernel
theorem dX9_makes_21 : decode cX9_makes 21 = .ok (.getfield 114, 3) := by decide +kernel
theorem dX9_makes_24 : decode cX9_makes 24 = .ok (.aload_n 0, 1) := by decide +kernel
theorem dX9_makes_25 : decode cX9_makes 25 = .ok (.getfield 310, 3) := by decide +kernel
theorem dX9_makes_28 : decode cX9_makes 28 = .ok (.lload_n 3, 1) := by decide +kernel
theorem dX9_makes_29 : decode cX9_makes 29 = .ok (.lastore, 1) := by decide +kernel
theorem dX9_makes_30 : decode cX9_makes 30 = .ok (.aload_n 0, 1) := by decide +kernel
theorem dX9_makes_31 : decode cX9_makes 31 = .ok (.getfield 117, 3) := by decide +kernel
theorem dX9_makes_34 : decode cX9_makes 34 = .ok (.aload_n 0, 1) := by decide +kernel
theorem dX9_makes_35 : decode cX9_makes 35 = .ok (.getfield 310, 3) := by decide +kernel
theorem dX9_makes_38 : decode cX9_makes 38 = .ok (.lload 5, 2) := by decide +kernel
theorem dX9_makes_40 : decode cX9_makes 40 = .ok (.lastore, 1) := by decide +kernel
theorem dX9_makes_41 : decode cX9_makes 41 = .ok (.aload_n 0, 1) := by decide +kernel
theorem dX9_makes_42 : decode cX9_makes 42 = .ok (.getfield 111, 3) := by decide +kernel
theorem dX9_makes_45 : decode cX9_makes 45 = .ok (.aload_n 0, 1) := by decide +kernel
theorem dX9_makes_46 : decode cX9_makes 46 = .ok (.getfield 310, 3) := by decide +kernel
theorem dX9_makes_49 : decode cX9_makes 49 = .ok (.iload 7, 2) := by decide +kernel
theorem dX9_makes_51 : decode cX9_makes 51 = .ok (.iastore, 1) := by decide +kernel
theorem dX9_makes_52 : decode cX9_makes 52 = .ok (.aload_n 0, 1) := by decide +kernel
theorem dX9_makes_53 : decode cX9_makes 53 = .ok (.getfield 99, 3) := by decide +kernel
theorem dX9_makes_56 : decode cX9_makes 56 = .ok (.aload_n 0, 1) := by decide +kernel
theorem dX9_makes_57 : decode cX9_makes 57 = .ok (.getfield 310, 3) := by decide +kernel
theorem dX9_makes_60 : decode cX9_makes 60 = .ok (.iload_n 1, 1) := by decide +kernel
theorem dX9_makes_61 : decode cX9_makes 61 = .ok (.iconst (-1), 1) := by decide +kernel
theorem dX9_makes_62 : decode cX9_makes 62 = .ok (.if_icmp .ne 10, 3) := by decide +kernel
theorem dX9_makes_65 : decode cX9_makes 65 = .ok (.aload_n 0, 1) := by decide +kernel
theorem dX9_makes_66 : decode cX9_makes 66 = .ok (.getfield 310, 3) := by decide +kernel
theorem dX9_makes_69 : decode cX9_makes 69 = .ok (.goto 9, 3) := by decide +kernel
theorem dX9_makes_72 : decode cX9_makes 72 = .ok (.aload_n 0, 1) := by decide +kernel
theorem dX9_makes_73 : decode cX9_makes 73 = .ok (.getfield 99, 3) := by decide +kernel
theorem dX9_makes_76 : decode cX9_makes 76 = .ok (.iload_n 1, 1) := by decide +kernel
theorem dX9_makes_77 : decode cX9_makes 77 = .ok (.iaload, 1) := by decide +kernel
theorem dX9_makes_78 : decode cX9_makes 78 = .ok (.iastore, 1) := by decide +kernel
theorem dX9_makes_79 : decode cX9_makes 79 = .ok (.aload_n 0, 1) := by decide +kernel
theorem dX9_makes_80 : decode cX9_makes 80 = .ok (.dup, 1) := by decide +kernel
theorem dX9_makes_81 : decode cX9_makes 81 = .ok (.getfield 310, 3) := by decide +kernel
theorem dX9_makes_84 : decode cX9_makes 84 = .ok (.iconst 1, 1) := by decide +kernel
theorem dX9_makes_85 : decode cX9_makes 85 = .ok (.iadd, 1) := by decide +kernel
theorem dX9_makes_86 : decode cX9_makes 86 = .ok (.putfield 310, 3) := by decide +kernel
theorem dX9_makes_89 : decode cX9_makes 89 = .ok (.aload_n 0, 1) := by decide +kernel
theorem dX9_makes_90 : decode cX9_makes 90 = .ok (.getfield 310, 3) := by decide +kernel
theorem dX9_makes_93 : decode cX9_makes 93 = .ok (.iconst 1, 1) := by decide +kernel
theorem dX9_makes_94 : decode cX9_makes 94 = .ok (.isub, 1) := by decide +kernel
theorem dX9_makes_95 : decode cX9_makes 95 = .ok (.ireturn, 1) := by decide +kernel
theorem dX9_lesson_0 : decode cX9_lesson 0 = .ok (.aload_n 0, 1) := by decide +kernel
theorem dX9_lesson_1 : decode cX9_lesson 1 = .ok (.iload_n 1, 1) := by decide +kernel
theorem dX9_lesson_2 : decode cX9_lesson 2 = .ok (.invokevirtual 241, 3) := by decide +kernel
theorem dX9_lesson_5 : decode cX9_lesson 5 = .ok (.istore_n 3, 1) := by decide +kernel
theorem dX9_lesson_6 : decode cX9_lesson 6 = .ok (.aload_n 0, 1) := by decide +kernel
theorem dX9_lesson_7 : decode cX9_lesson 7 = .ok (.iload_n 3, 1) := by decide +kernel
theorem dX9_lesson_8 : decode cX9_lesson 8 = .ok (.ifCond .ne 7, 3) := by decide +kernel
theorem dX9_lesson_11 : decode cX9_lesson 11 = .ok (.iconst 1, 1) := by decide +kernel
theorem dX9_lesson_12 : decode cX9_lesson 12 = .ok (.goto 35, 3) := by decide +kernel
theorem dX9_lesson_15 : decode cX9_lesson 15 = .ok (.iload_n 2, 1) := by decide +kernel
theorem dX9_lesson_16 : decode cX9_lesson 16 = .ok (.iconst 0, 1) := by decide +kernel
theorem dX9_lesson_17 : decode cX9_lesson 17 = .ok (.aload_n 0, 1) := by decide +kernel
theorem dX9_lesson_18 : decode cX9_lesson 18 = .ok (.getfield 47, 3) := by decide +kernel
theorem dX9_lesson_21 : decode cX9_lesson 21 = .ok (.iload_n 1, 1) := by decide +kernel
theorem dX9_lesson_22 : decode cX9_lesson 22 = .ok (.iaload, 1) := by decide +kernel
theorem dX9_lesson_23 : decode cX9_lesson 23 = .ok (.invokestatic 133, 3) := by decide +kernel
theorem dX9_lesson_26 : decode cX9_lesson 26 = .ok (.ifCond .ne 7, 3) := by decide +kernel
theorem dX9_lesson_29 : decode cX9_lesson 29 = .ok (.iconst 2, 1) := by decide +kernel
theorem dX9_lesson_30 : decode cX9_lesson 30 = .ok (.goto 17, 3) := by decide +kernel
theorem dX9_lesson_33 : decode cX9_lesson 33 = .ok (.aload_n 0, 1) := by decide +kernel
theorem dX9_lesson_34 : decode cX9_lesson 34 = .ok (.getfield 310, 3) := by decide +kernel
theorem dX9_lesson_37 : decode cX9_lesson 37 = .ok (.bipush 60, 2) := by decide +kernel
theorem dX9_lesson_39 : decode cX9_lesson 39 = .ok (.if_icmp .ne 7, 3) := by decide +kernel
theorem dX9_lesson_42 : decode cX9_lesson 42 = .ok (.iconst 3, 1) := by decide +kernel
theorem dX9_lesson_43 : decode cX9_lesson 43 = .ok (.goto 4, 3) := by decide +kernel
theorem dX9_lesson_46 : decode cX9_lesson 46 = .ok (.iconst 0, 1) := by decide +kernel
theorem dX9_lesson_47 : decode cX9_lesson 47 = .ok (.invokevirtual 185, 3) := by decide +kernel
theorem dX9_lesson_50 : decode cX9_lesson 50 = .ok (.ifCond .eq 5, 3) := by decide +kernel
theorem dX9_lesson_53 : decode cX9_lesson 53 = .ok (.iconst 0, 1) := by decide +kernel
theorem dX9_lesson_54 : decode cX9_lesson 54 = .ok (.ireturn, 1) := by decide +kernel
theorem dX9_lesson_55 : decode cX9_lesson 55 = .ok (.aload_n 0, 1) := by decide +kernel
theorem dX9_lesson_56 : decode cX9_lesson 56 = .ok (.iload_n 1, 1) := by decide +kernel
theorem dX9_lesson_57 : decode cX9_lesson 57 = .ok (.iload_n 2, 1) := by decide +kernel
theorem dX9_lesson_58 : decode cX9_lesson 58 = .ok (.invokevirtual 313, 3) := by decide +kernel
theorem dX9_lesson_61 : decode cX9_lesson 61 = .ok (.istore 4, 2) := by decide +kernel
theorem dX9_lesson_63 : decode cX9_lesson 63 = .ok (.aload_n 0, 1) := by decide +kernel
theorem dX9_lesson_64 : decode cX9_lesson 64 = .ok (.iconst (-1), 1) := by decide +kernel
theorem dX9_lesson_65 : decode cX9_lesson 65 = .ok (.bipush (-2), 2) := by decide +kernel
theorem dX9_lesson_67 : decode cX9_lesson 67 = .ok (.aload_n 0, 1) := by decide +kernel
theorem dX9_lesson_68 : decode cX9_lesson 68 = .ok (.getfield 65, 3) := by decide +kernel
theorem dX9_lesson_71 : decode cX9_lesson 71 = .ok (.iload 4, 2) := by decide +kernel
theorem dX9_lesson_73 : decode cX9_lesson 73 = .ok (.laload, 1) := by decide +kernel
theorem dX9_lesson_74 : decode cX9_lesson 74 = .ok (.aload_n 0, 1) := by decide +kernel
theorem dX9_lesson_75 : decode cX9_lesson 75 = .ok (.getfield 69, 3) := by decide +kernel
theorem dX9_lesson_78 : decode cX9_lesson 78 = .ok (.iload 4, 2) := by decide +kernel
theorem dX9_lesson_80 : decode cX9_lesson 80 = .ok (.laload, 1) := by decide +kernel
theorem dX9_lesson_81 : decode cX9_lesson 81 = .ok (.aload_n 0, 1) := by decide +kernel
theorem dX9_lesson_82 : decode cX9_lesson 82 = .ok (.iload_n 1, 1) := by decide +kernel
theorem dX9_lesson_83 : decode cX9_lesson 83 = .ok (.iload_n 2, 1) := by decide +kernel
theorem dX9_lesson_84 : decode cX9_lesson 84 = .ok (.invokevirtual 226, 3) := by decide +kernel
theorem dX9_lesson_87 : decode cX9_lesson 87 = .ok (.invokevirtual 316, 3) := by decide +kernel
theorem dX9_lesson_90 : decode cX9_lesson 90 = .ok (.istore 5, 2) := by decide +kernel
theorem dX9_lesson_92 : decode cX9_lesson 92 = .ok (.aload_n 0, 1) := by decide +kernel
theorem dX9_lesson_93 : decode cX9_lesson 93 = .ok (.getfield 105, 3) := by decide +kernel
theorem dX9_lesson_96 : decode cX9_lesson 96 = .ok (.iload 5, 2) := by decide +kernel
theorem dX9_lesson_98 : decode cX9_lesson 98 = .ok (.iload_n 1, 1) := by decide +kernel
theorem dX9_lesson_99 : decode cX9_lesson 99 = .ok (.iastore, 1) := by decide +kernel
theorem dX9_lesson_100 : decode cX9_lesson 100 = .ok (.aload_n 0, 1) := by decide +kernel
theorem dX9_lesson_101 : decode cX9_lesson 101 = .ok (.getfield 108, 3) := by decide +kernel
theorem dX9_lesson_104 : decode cX9_lesson 104 = .ok (.iload 5, 2) := by decide +kernel
theorem dX9_lesson_106 : decode cX9_lesson 106 = .ok (.iload_n 2, 1) := by decide +kernel
theorem dX9_lesson_107 : decode cX9_lesson 107 = .ok (.iastore, 1) := by decide +kernel
theorem dX9_lesson_108 : decode cX9_lesson 108 = .ok (.iload 5, 2) := by decide +kernel
theorem dX9_lesson_110 : decode cX9_lesson 110 = .ok (.ireturn, 1) := by decide +kernel
theorem dX9_child_0 : decode cX9_child 0 = .ok (.iconst (-1), 1) := by decide +kernel
theorem dX9_child_1 : decode cX9_child 1 = .ok (.istore_n 3, 1) := by decide +kernel
theorem dX9_child_2 : decode cX9_child 2 = .ok (.iconst 0, 1) := by decide +kernel
theorem dX9_child_3 : decode cX9_child 3 = .ok (.istore 4, 2) := by decide +kernel
theorem dX9_child_5 : decode cX9_child 5 = .ok (.iload 4, 2) := by decide +kernel
theorem dX9_child_7 : decode cX9_child 7 = .ok (.aload_n 0, 1) := by decide +kernel
theorem dX9_child_8 : decode cX9_child 8 = .ok (.getfield 310, 3) := by decide +kernel
theorem dX9_child_11 : decode cX9_child 11 = .ok (.if_icmp .ge 38, 3) := by decide +kernel
theorem dX9_child_14 : decode cX9_child 14 = .ok (.aload_n 0, 1) := by decide +kernel
theorem dX9_child_15 : decode cX9_child 15 = .ok (.getfield 96, 3) := by decide +kernel
theorem dX9_child_18 : decode cX9_child 18 = .ok (.iload 4, 2) := by decide +kernel
theorem dX9_child_20 : decode cX9_child 20 = .ok (.iaload, 1) := by decide +kernel
theorem dX9_child_21 : decode cX9_child 21 = .ok (.iload_n 1, 1) := by decide +kernel
theorem dX9_child_22 : decode cX9_child 22 = .ok (.if_icmp .ne 19, 3) := by decide +kernel
theorem dX9_child_25 : decode cX9_child 25 = .ok (.aload_n 0, 1) := by decide +kernel
theorem dX9_child_26 : decode cX9_child 26 = .ok (.getfield 102, 3) := by decide +kernel
theorem dX9_child_29 : decode cX9_child 29 = .ok (.iload 4, 2) := by decide +kernel
theorem dX9_child_31 : decode cX9_child 31 = .ok (.iaload, 1) := by decide +kernel
theorem dX9_child_32 : decode cX9_child 32 = .ok (.iload_n 2, 1) := by decide +kernel
theorem dX9_child_33 : decode cX9_child 33 = .ok (.if_icmp .ne 8, 3) := by decide +kernel
theorem dX9_child_36 : decode cX9_child 36 = .ok (.iload 4, 2) := by decide +kernel
theorem dX9_child_38 : decode cX9_child 38 = .ok (.goto 4, 3) := by decide +kernel
theorem dX9_child_41 : decode cX9_child 41 = .ok (.iload_n 3, 1) := by decide +kernel
theorem dX9_child_42 : decode cX9_child 42 = .ok (.istore_n 3, 1) := by decide +kernel
theorem dX9_child_43 : decode cX9_child 43 = .ok (.iinc 4 1, 3) := by decide +kernel
theorem dX9_child_46 : decode cX9_child 46 = .ok (.goto (-41), 3) := by decide +kernel
theorem dX9_child_49 : decode cX9_child 49 = .ok (.iload_n 3, 1) := by decide +kernel
theorem dX9_child_50 : decode cX9_child 50 = .ok (.ireturn, 1) := by decide +kernel
theorem dX9_canBranch_0 : decode cX9_canBranch 0 = .ok (.aload_n 0, 1) := by decide +kernel
theorem dX9_canBranch_1 : decode cX9_canBranch 1 = .ok (.getfield 114, 3) := by decide +kernel
theorem dX9_canBranch_4 : decode cX9_canBranch 4 = .ok (.iload_n 1, 1) := by decide +kernel
theorem dX9_canBranch_5 : decode cX9_canBranch 5 = .ok (.laload, 1) := by decide +kernel
theorem dX9_canBranch_6 : decode cX9_canBranch 6 = .ok (.lstore_n 3, 1) := by decide +kernel
theorem dX9_canBranch_7 : decode cX9_canBranch 7 = .ok (.aload_n 0, 1) := by decide +kernel
theorem dX9_canBranch_8 : decode cX9_canBranch 8 = .ok (.getfield 117, 3) := by decide +kernel
theorem dX9_canBranch_11 : decode cX9_canBranch 11 = .ok (.iload_n 1, 1) := by decide +kernel
theorem dX9_canBranch_12 : decode cX9_canBranch 12 = .ok (.laload, 1) := by decide +kernel
theorem dX9_canBranch_13 : decode cX9_canBranch 13 = .ok (.lstore 5, 2) := by decide +kernel
theorem dX9_canBranch_15 : decode cX9_canBranch 15 = .ok (.iload_n 2, 1) := by decide +kernel
theorem dX9_canBranch_16 : decode cX9_canBranch 16 = .ok (.iconst (-1), 1) := by decide +kernel
theorem dX9_canBranch_17 : decode cX9_canBranch 17 = .ok (.if_icmp .ne 16, 3) := by decide +kernel
theorem dX9_canBranch_20 : decode cX9_canBranch 20 = .ok (.aload_n 0, 1) := by decide +kernel
theorem dX9_canBranch_21 : decode cX9_canBranch 21 = .ok (.lload_n 3, 1) := by decide +kernel
theorem dX9_canBranch_22 : decode cX9_canBranch 22 = .ok (.putfield 178, 3) := by decide +kernel
theorem dX9_canBranch_25 : decode cX9_canBranch 25 = .ok (.aload_n 0, 1) := by decide +kernel
theorem dX9_canBranch_26 : decode cX9_canBranch 26 = .ok (.lload 5, 2) := by decide +kernel
theorem dX9_canBranch_28 : decode cX9_canBranch 28 = .ok (.putfield 182, 3) := by decide +kernel
theorem dX9_canBranch_31 : decode cX9_canBranch 31 = .ok (.iconst 1, 1) := by decide +kernel
theorem dX9_canBranch_32 : decode cX9_canBranch 32 = .ok (.ireturn, 1) := by decide +kernel
theorem dX9_canBranch_33 : decode cX9_canBranch 33 = .ok (.aload_n 0, 1) := by decide +kernel
theorem dX9_canBranch_34 : decode cX9_canBranch 34 = .ok (.lload_n 3, 1) := by decide +kernel
theorem dX9_canBranch_35 : decode cX9_canBranch 35 = .ok (.lload 5, 2) := by decide +kernel
theorem dX9_canBranch_37 : decode cX9_canBranch 37 = .ok (.iload_n 2, 1) := by decide +kernel
theorem dX9_canBranch_38 : decode cX9_canBranch 38 = .ok (.invokevirtual 229, 3) := by decide +kernel
theorem dX9_canBranch_41 : decode cX9_canBranch 41 = .ok (.ifCond .ne 5, 3) := by decide +kernel
theorem dX9_canBranch_44 : decode cX9_canBranch 44 = .ok (.iconst 0, 1) := by decide +kernel
theorem dX9_canBranch_45 : decode cX9_canBranch 45 = .ok (.ireturn, 1) := by decide +kernel
theorem dX9_canBranch_46 : decode cX9_canBranch 46 = .ok (.aload_n 0, 1) := by decide +kernel
theorem dX9_canBranch_47 : decode cX9_canBranch 47 = .ok (.lload_n 3, 1) := by decide +kernel
theorem dX9_canBranch_48 : decode cX9_canBranch 48 = .ok (.lload 5, 2) := by decide +kernel
theorem dX9_canBranch_50 : decode cX9_canBranch 50 = .ok (.aload_n 0, 1) := by decide +kernel
theorem dX9_canBranch_51 : decode cX9_canBranch 51 = .ok (.getfield 111, 3) := by decide +kernel
theorem dX9_canBranch_54 : decode cX9_canBranch 54 = .ok (.iload_n 1, 1) := by decide +kernel
theorem dX9_canBranch_55 : decode cX9_canBranch 55 = .ok (.iaload, 1) := by decide +kernel
theorem dX9_canBranch_56 : decode cX9_canBranch 56 = .ok (.iload_n 2, 1) := by decide +kernel
theorem dX9_canBranch_57 : decode cX9_canBranch 57 = .ok (.invokevirtual 233, 3) := by decide +kernel
theorem dX9_canBranch_60 : decode cX9_canBranch 60 = .ok (.iconst 0, 1) := by decide +kernel
theorem dX9_canBranch_61 : decode cX9_canBranch 61 = .ok (.istore 7, 2) := by decide +kernel
theorem dX9_canBranch_63 : decode cX9_canBranch 63 = .ok (.iload_n 1, 1) := by decide +kernel
theorem dX9_canBranch_64 : decode cX9_canBranch 64 = .ok (.istore 8, 2) := by decide +kernel
theorem dX9_canBranch_66 : decode cX9_canBranch 66 = .ok (.iload 8, 2) := by decide +kernel
theorem dX9_canBranch_68 : decode cX9_canBranch 68 = .ok (.iconst (-1), 1) := by decide +kernel
theorem dX9_canBranch_69 : decode cX9_canBranch 69 = .ok (.if_icmp .eq 57, 3) := by decide +kernel
theorem dX9_canBranch_72 : decode cX9_canBranch 72 = .ok (.iload 7, 2) := by decide +kernel
theorem dX9_canBranch_74 : decode cX9_canBranch 74 = .ok (.ifCond .ne 33, 3) := by decide +kernel
theorem dX9_canBranch_77 : decode cX9_canBranch 77 = .ok (.aload_n 0, 1) := by decide +kernel
theorem dX9_canBranch_78 : decode cX9_canBranch 78 = .ok (.getfield 114, 3) := by decide +kernel
theorem dX9_canBranch_81 : decode cX9_canBranch 81 = .ok (.iload 8, 2) := by decide +kernel
theorem dX9_canBranch_83 : decode cX9_canBranch 83 = .ok (.laload, 1) := by decide +kernel
theorem dX9_canBranch_84 : decode cX9_canBranch 84 = .ok (.aload_n 0, 1) := by decide +kernel
theorem dX9_canBranch_85 : decode cX9_canBranch 85 = .ok (.getfield 178, 3) := by decide +kernel
theorem dX9_canBranch_88 : decode cX9_canBranch 88 = .ok (.lcmp, 1) := by decide +kernel
theorem dX9_canBranch_89 : decode cX9_canBranch 89 = .ok (.ifCond .ne 22, 3) := by decide +kernel
theorem dX9_canBranch_92 : decode cX9_canBranch 92 = .ok (.aload_n 0, 1) := by decide +kernel
theorem dX9_canBranch_93 : decode cX9_canBranch 93 = .ok (.getfield 117, 3) := by decide +kernel
theorem dX9_canBranch_96 : decode cX9_canBranch 96 = .ok (.iload 8, 2) := by decide +kernel
theorem dX9_canBranch_98 : decode cX9_canBranch 98 = .ok (.laload, 1) := by decide +kernel
theorem dX9_canBranch_99 : decode cX9_canBranch 99 = .ok (.aload_n 0, 1) := by decide +kernel
theorem dX9_canBranch_100 : decode cX9_canBranch 100 = .ok (.getfield 182, 3) := by decide +kernel
theorem dX9_canBranch_103 : decode cX9_canBranch 103 = .ok (.lcmp, 1) := by decide +kernel
theorem dX9_canBranch_104 : decode cX9_canBranch 104 = .ok (.ifCond .ne 7, 3) := by decide +kernel
theorem dX9_canBranch_107 : decode cX9_canBranch 107 = .ok (.iconst 1, 1) := by decide +kernel
theorem dX9_canBranch_108 : decode cX9_canBranch 108 = .ok (.goto 4, 3) := by decide +kernel
theorem dX9_canBranch_111 : decode cX9_canBranch 111 = .ok (.iconst 0, 1) := by decide +kernel
theorem dX9_canBranch_112 : decode cX9_canBranch 112 = .ok (.istore 7, 2) := by decide +kernel
theorem dX9_canBranch_114 : decode cX9_canBranch 114 = .ok (.aload_n 0, 1) := by decide +kernel
theorem dX9_canBranch_115 : decode cX9_canBranch 115 = .ok (.getfield 96, 3) := by decide +kernel
theorem dX9_canBranch_118 : decode cX9_canBranch 118 = .ok (.iload 8, 2) := by decide +kernel
theorem dX9_canBranch_120 : decode cX9_canBranch 120 = .ok (.iaload, 1) := by decide +kernel
theorem dX9_canBranch_121 : decode cX9_canBranch 121 = .ok (.istore 8, 2) := by decide +kernel
theorem dX9_canBranch_123 : decode cX9_canBranch 123 = .ok (.goto (-57), 3) := by decide +kernel
theorem dX9_canBranch_126 : decode cX9_canBranch 126 = .ok (.aload_n 0, 1) := by decide +kernel
theorem dX9_canBranch_127 : decode cX9_canBranch 127 = .ok (.getfield 99, 3) := by decide +kernel
theorem dX9_canBranch_130 : decode cX9_canBranch 130 = .ok (.iload_n 1, 1) := by decide +kernel
theorem dX9_canBranch_131 : decode cX9_canBranch 131 = .ok (.iaload, 1) := by decide +kernel
theorem dX9_canBranch_132 : decode cX9_canBranch 132 = .ok (.istore 8, 2) := by decide +kernel
theorem dX9_canBranch_134 : decode cX9_canBranch 134 = .ok (.aload_n 0, 1) := by decide +kernel
theorem dX9_canBranch_135 : decode cX9_canBranch 135 = .ok (.getfield 174, 3) := by decide +kernel
theorem dX9_canBranch_138 : decode cX9_canBranch 138 = .ok (.ifCond .ne 45, 3) := by decide +kernel
theorem dX9_canBranch_141 : decode cX9_canBranch 141 = .ok (.iload 7, 2) := by decide +kernel
theorem dX9_canBranch_143 : decode cX9_canBranch 143 = .ok (.ifCond .ne 40, 3) := by decide +kernel
theorem dX9_canBranch_146 : decode cX9_canBranch 146 = .ok (.aload_n 0, 1) := by decide +kernel
theorem dX9_canBranch_147 : decode cX9_canBranch 147 = .ok (.aload_n 0, 1) := by decide +kernel
theorem dX9_canBranch_148 : decode cX9_canBranch 148 = .ok (.aload_n 0, 1) := by decide +kernel
theorem dX9_canBranch_149 : decode cX9_canBranch 149 = .ok (.getfield 105, 3) := by decide +kernel
theorem dX9_canBranch_152 : decode cX9_canBranch 152 = .ok (.iload 8, 2) := by decide +kernel
theorem dX9_canBranch_154 : decode cX9_canBranch 154 = .ok (.iaload, 1) := by decide +kernel
theorem dX9_canBranch_155 : decode cX9_canBranch 155 = .ok (.aload_n 0, 1) := by decide +kernel
theorem dX9_canBranch_156 : decode cX9_canBranch 156 = .ok (.getfield 108, 3) := by decide +kernel
theorem dX9_canBranch_159 : decode cX9_canBranch 159 = .ok (.iload 8, 2) := by decide +kernel
theorem dX9_canBranch_161 : decode cX9_canBranch 161 = .ok (.iaload, 1) := by decide +kernel
theorem dX9_canBranch_162 : decode cX9_canBranch 162 = .ok (.invokevirtual 313, 3) := by decide +kernel
theorem dX9_canBranch_165 : decode cX9_canBranch 165 = .ok (.aload_n 0, 1) := by decide +kernel
theorem dX9_canBranch_166 : decode cX9_canBranch 166 = .ok (.getfield 178, 3) := by decide +kernel
theorem dX9_canBranch_169 : decode cX9_canBranch 169 = .ok (.aload_n 0, 1) := by decide +kernel
theorem dX9_canBranch_170 : decode cX9_canBranch 170 = .ok (.getfield 182, 3) := by decide +kernel
theorem dX9_canBranch_173 : decode cX9_canBranch 173 = .ok (.invokevirtual 237, 3) := by decide +kernel
theorem dX9_canBranch_176 : decode cX9_canBranch 176 = .ok (.ifCond .ne 7, 3) := by decide +kernel
theorem dX9_canBranch_179 : decode cX9_canBranch 179 = .ok (.iconst 1, 1) := by decide +kernel
theorem dX9_canBranch_180 : decode cX9_canBranch 180 = .ok (.goto 4, 3) := by decide +kernel
theorem dX9_canBranch_183 : decode cX9_canBranch 183 = .ok (.iconst 0, 1) := by decide +kernel
theorem dX9_canBranch_184 : decode cX9_canBranch 184 = .ok (.ireturn, 1) := by decide +kernel
theorem dX9_branch_0 : decode cX9_branch 0 = .ok (.aload_n 0, 1) := by decide +kernel
theorem dX9_branch_1 : decode cX9_branch 1 = .ok (.iload_n 1, 1) := by decide +kernel
theorem dX9_branch_2 : decode cX9_branch 2 = .ok (.invokevirtual 320, 3) := by decide +kernel
theorem dX9_branch_5 : decode cX9_branch 5 = .ok (.ifCond .eq 19, 3) := by decide +kernel
theorem dX9_branch_8 : decode cX9_branch 8 = .ok (.iload_n 2, 1) := by decide +kernel
theorem dX9_branch_9 : decode cX9_branch 9 = .ok (.iconst (-1), 1) := by decide +kernel
theorem dX9_branch_10 : decode cX9_branch 10 = .ok (.if_icmp .eq 10, 3) := by decide +kernel
theorem dX9_branch_13 : decode cX9_branch 13 = .ok (.iload_n 2, 1) := by decide +kernel
theorem dX9_branch_14 : decode cX9_branch 14 = .ok (.invokestatic 244, 3) := by decide +kernel
theorem dX9_branch_17 : decode cX9_branch 17 = .ok (.ifCond .eq 7, 3) := by decide +kernel
theorem dX9_branch_20 : decode cX9_branch 20 = .ok (.iconst 1, 1) := by decide +kernel
theorem dX9_branch_21 : decode cX9_branch 21 = .ok (.goto 4, 3) := by decide +kernel
theorem dX9_branch_24 : decode cX9_branch 24 = .ok (.iconst 0, 1) := by decide +kernel
theorem dX9_branch_25 : decode cX9_branch 25 = .ok (.istore_n 3, 1) := by decide +kernel
theorem dX9_branch_26 : decode cX9_branch 26 = .ok (.iload_n 3, 1) := by decide +kernel
theorem dX9_branch_27 : decode cX9_branch 27 = .ok (.ifCond .eq 12, 3) := by decide +kernel
theorem dX9_branch_30 : decode cX9_branch 30 = .ok (.aload_n 0, 1) := by decide +kernel
theorem dX9_branch_31 : decode cX9_branch 31 = .ok (.iload_n 1, 1) := by decide +kernel
theorem dX9_branch_32 : decode cX9_branch 32 = .ok (.iload_n 2, 1) := by decide +kernel
theorem dX9_branch_33 : decode cX9_branch 33 = .ok (.invokevirtual 323, 3) := by decide +kernel
theorem dX9_branch_36 : decode cX9_branch 36 = .ok (.goto 4, 3) := by decide +kernel
theorem dX9_branch_39 : decode cX9_branch 39 = .ok (.iconst (-1), 1) := by decide +kernel
theorem dX9_branch_40 : decode cX9_branch 40 = .ok (.istore 4, 2) := by decide +kernel
theorem dX9_branch_42 : decode cX9_branch 42 = .ok (.aload_n 0, 1) := by decide +kernel
theorem dX9_branch_43 : decode cX9_branch 43 = .ok (.iload_n 3, 1) := by decide +kernel
theorem dX9_branch_44 : decode cX9_branch 44 = .ok (.ifCond .ne 7, 3) := by decide +kernel
theorem dX9_branch_47 : decode cX9_branch 47 = .ok (.iconst 1, 1) := by decide +kernel
theorem dX9_branch_48 : decode cX9_branch 48 = .ok (.goto 32, 3) := by decide +kernel
theorem dX9_branch_51 : decode cX9_branch 51 = .ok (.iload 4, 2) := by decide +kernel
theorem dX9_branch_53 : decode cX9_branch 53 = .ok (.iconst (-1), 1) := by decide +kernel
theorem dX9_branch_54 : decode cX9_branch 54 = .ok (.if_icmp .ne 25, 3) := by decide +kernel
theorem dX9_branch_57 : decode cX9_branch 57 = .ok (.aload_n 0, 1) := by decide +kernel
theorem dX9_branch_58 : decode cX9_branch 58 = .ok (.getfield 310, 3) := by decide +kernel
theorem dX9_branch_61 : decode cX9_branch 61 = .ok (.bipush 60, 2) := by decide +kernel
theorem dX9_branch_63 : decode cX9_branch 63 = .ok (.if_icmp .eq 12, 3) := by decide +kernel
theorem dX9_branch_66 : decode cX9_branch 66 = .ok (.aload_n 0, 1) := by decide +kernel
theorem dX9_branch_67 : decode cX9_branch 67 = .ok (.iload_n 1, 1) := by decide +kernel
theorem dX9_branch_68 : decode cX9_branch 68 = .ok (.iload_n 2, 1) := by decide +kernel
theorem dX9_branch_69 : decode cX9_branch 69 = .ok (.invokevirtual 326, 3) := by decide +kernel
theorem dX9_branch_72 : decode cX9_branch 72 = .ok (.ifCond .ne 7, 3) := by decide +kernel
theorem dX9_branch_75 : decode cX9_branch 75 = .ok (.iconst 2, 1) := by decide +kernel
theorem dX9_branch_76 : decode cX9_branch 76 = .ok (.goto 4, 3) := by decide +kernel
theorem dX9_branch_79 : decode cX9_branch 79 = .ok (.iconst 0, 1) := by decide +kernel
theorem dX9_branch_80 : decode cX9_branch 80 = .ok (.invokevirtual 185, 3) := by decide +kernel
theorem dX9_branch_83 : decode cX9_branch 83 = .ok (.ifCond .eq 5, 3) := by decide +kernel
theorem dX9_branch_86 : decode cX9_branch 86 = .ok (.iconst 0, 1) := by decide +kernel
theorem dX9_branch_87 : decode cX9_branch 87 = .ok (.ireturn, 1) := by decide +kernel
theorem dX9_branch_88 : decode cX9_branch 88 = .ok (.iload 4, 2) := by decide +kernel
theorem dX9_branch_90 : decode cX9_branch 90 = .ok (.iconst (-1), 1) := by decide +kernel
theorem dX9_branch_91 : decode cX9_branch 91 = .ok (.if_icmp .eq 8, 3) := by decide +kernel
theorem dX9_branch_94 : decode cX9_branch 94 = .ok (.iload 4, 2) := by decide +kernel
theorem dX9_branch_96 : decode cX9_branch 96 = .ok (.goto 25, 3) := by decide +kernel
theorem dX9_branch_99 : decode cX9_branch 99 = .ok (.aload_n 0, 1) := by decide +kernel
theorem dX9_branch_100 : decode cX9_branch 100 = .ok (.iload_n 1, 1) := by decide +kernel
theorem dX9_branch_101 : decode cX9_branch 101 = .ok (.iload_n 2, 1) := by decide +kernel
theorem dX9_branch_102 : decode cX9_branch 102 = .ok (.aload_n 0, 1) := by decide +kernel
theorem dX9_branch_103 : decode cX9_branch 103 = .ok (.getfield 178, 3) := by decide +kernel
theorem dX9_branch_106 : decode cX9_branch 106 = .ok (.aload_n 0, 1) := by decide +kernel
theorem dX9_branch_107 : decode cX9_branch 107 = .ok (.getfield 182, 3) := by decide +kernel
theorem dX9_branch_110 : decode cX9_branch 110 = .ok (.iconst 1, 1) := by decide +kernel
theorem dX9_branch_111 : decode cX9_branch 111 = .ok (.aload_n 0, 1) := by decide +kernel
theorem dX9_branch_112 : decode cX9_branch 112 = .ok (.getfield 111, 3) := by decide +kernel
theorem dX9_branch_115 : decode cX9_branch 115 = .ok (.iload_n 1, 1) := by decide +kernel
theorem dX9_branch_116 : decode cX9_branch 116 = .ok (.iaload, 1) := by decide +kernel
theorem dX9_branch_117 : decode cX9_branch 117 = .ok (.isub, 1) := by decide +kernel
theorem dX9_branch_118 : decode cX9_branch 118 = .ok (.invokevirtual 316, 3) := by decide +kernel
theorem dX9_branch_121 : decode cX9_branch 121 = .ok (.ireturn, 1) := by decide +kernel
theorem dX9_mark_0 : decode cX9_mark 0 = .ok (.aload_n 0, 1) := by decide +kernel
theorem dX9_mark_1 : decode cX9_mark 1 = .ok (.iload_n 1, 1) := by decide +kernel
theorem dX9_mark_2 : decode cX9_mark 2 = .ok (.invokevirtual 320, 3) := by decide +kernel
theorem dX9_mark_5 : decode cX9_mark 5 = .ok (.ifCond .eq 16, 3) := by decide +kernel
theorem dX9_mark_8 : decode cX9_mark 8 = .ok (.iload_n 2, 1) := by decide +kernel
theorem dX9_mark_9 : decode cX9_mark 9 = .ok (.iconst 0, 1) := by decide +kernel
theorem dX9_mark_10 : decode cX9_mark 10 = .ok (.iconst 3, 1) := by decide +kernel
theorem dX9_mark_11 : decode cX9_mark 11 = .ok (.invokestatic 133, 3) := by decide +kernel
theorem dX9_mark_14 : decode cX9_mark 14 = .ok (.ifCond .eq 7, 3) := by decide +kernel
theorem dX9_mark_17 : decode cX9_mark 17 = .ok (.iconst 1, 1) := by decide +kernel
theorem dX9_mark_18 : decode cX9_mark 18 = .ok (.goto 4, 3) := by decide +kernel
theorem dX9_mark_21 : decode cX9_mark 21 = .ok (.iconst 0, 1) := by decide +kernel
theorem dX9_mark_22 : decode cX9_mark 22 = .ok (.istore 4, 2) := by decide +kernel
theorem dX9_mark_24 : decode cX9_mark 24 = .ok (.aload_n 0, 1) := by decide +kernel
theorem dX9_mark_25 : decode cX9_mark 25 = .ok (.iload 4, 2) := by decide +kernel
theorem dX9_mark_27 : decode cX9_mark 27 = .ok (.ifCond .ne 7, 3) := by decide +kernel
theorem dX9_mark_30 : decode cX9_mark 30 = .ok (.iconst 1, 1) := by decide +kernel
theorem dX9_mark_31 : decode cX9_mark 31 = .ok (.goto 17, 3) := by decide +kernel
theorem dX9_mark_34 : decode cX9_mark 34 = .ok (.iload_n 3, 1) := by decide +kernel
theorem dX9_mark_35 : decode cX9_mark 35 = .ok (.iconst 0, 1) := by decide +kernel
theorem dX9_mark_36 : decode cX9_mark 36 = .ok (.iconst 3, 1) := by decide +kernel
theorem dX9_mark_37 : decode cX9_mark 37 = .ok (.invokestatic 133, 3) := by decide +kernel
theorem dX9_mark_40 : decode cX9_mark 40 = .ok (.ifCond .eq 7, 3) := by decide +kernel
theorem dX9_mark_43 : decode cX9_mark 43 = .ok (.iconst 0, 1) := by decide +kernel
theorem dX9_mark_44 : decode cX9_mark 44 = .ok (.goto 4, 3) := by decide +kernel
theorem dX9_mark_47 : decode cX9_mark 47 = .ok (.iconst 2, 1) := by decide +kernel
theorem dX9_mark_48 : decode cX9_mark 48 = .ok (.invokevirtual 185, 3) := by decide +kernel
theorem dX9_mark_51 : decode cX9_mark 51 = .ok (.ifCond .eq 5, 3) := by decide +kernel
theorem dX9_mark_54 : decode cX9_mark 54 = .ok (.iconst 0, 1) := by decide +kernel
theorem dX9_mark_55 : decode cX9_mark 55 = .ok (.ireturn, 1) := by decide +kernel
theorem dX9_mark_56 : decode cX9_mark 56 = .ok (.aload_n 0, 1) := by decide +kernel
theorem dX9_mark_57 : decode cX9_mark 57 = .ok (.getfield 120, 3) := by decide +kernel
theorem dX9_mark_60 : decode cX9_mark 60 = .ok (.iconst 4, 1) := by decide +kernel
theorem dX9_mark_61 : decode cX9_mark 61 = .ok (.iload_n 1, 1) := by decide +kernel
theorem dX9_mark_62 : decode cX9_mark 62 = .ok (.imul, 1) := by decide +kernel
theorem dX9_mark_63 : decode cX9_mark 63 = .ok (.iload_n 2, 1) := by decide +kernel
theorem dX9_mark_64 : decode cX9_mark 64 = .ok (.iadd, 1) := by decide +kernel
theorem dX9_mark_65 : decode cX9_mark 65 = .ok (.iaload, 1) := by decide +kernel
theorem dX9_mark_66 : decode cX9_mark 66 = .ok (.istore 5, 2) := by decide +kernel
theorem dX9_mark_68 : decode cX9_mark 68 = .ok (.aload_n 0, 1) := by decide +kernel
theorem dX9_mark_69 : decode cX9_mark 69 = .ok (.getfield 120, 3) := by decide +kernel
theorem dX9_mark_72 : decode cX9_mark 72 = .ok (.iconst 4, 1) := by decide +kernel
theorem dX9_mark_73 : decode cX9_mark 73 = .ok (.iload_n 1, 1) := by decide +kernel
theorem dX9_mark_74 : decode cX9_mark 74 = .ok (.imul, 1) := by decide +kernel
theorem dX9_mark_75 : decode cX9_mark 75 = .ok (.iload_n 2, 1) := by decide +kernel
theorem dX9_mark_76 : decode cX9_mark 76 = .ok (.iadd, 1) := by decide +kernel
theorem dX9_mark_77 : decode cX9_mark 77 = .ok (.iload_n 3, 1) := by decide +kernel
theorem dX9_mark_78 : decode cX9_mark 78 = .ok (.iastore, 1) := by decide +kernel
theorem dX9_mark_79 : decode cX9_mark 79 = .ok (.iload 5, 2) := by decide +kernel
theorem dX9_mark_81 : decode cX9_mark 81 = .ok (.ireturn, 1) := by decide +kernel
theorem dX9_node_0 : decode cX9_node 0 = .ok (.aload_n 0, 1) := by decide +kernel
theorem dX9_node_1 : decode cX9_node 1 = .ok (.aload_n 0, 1) := by decide +kernel
theorem dX9_node_2 : decode cX9_node 2 = .ok (.iload_n 1, 1) := by decide +kernel
theorem dX9_node_3 : decode cX9_node 3 = .ok (.invokevirtual 320, 3) := by decide +kernel
theorem dX9_node_6 : decode cX9_node 6 = .ok (.ifCond .eq 7, 3) := by decide +kernel
theorem dX9_node_9 : decode cX9_node 9 = .ok (.iconst 0, 1) := by decide +kernel
theorem dX9_node_10 : decode cX9_node 10 = .ok (.goto 4, 3) := by decide +kernel
theorem dX9_node_13 : decode cX9_node 13 = .ok (.iconst 1, 1) := by decide +kernel
theorem dX9_node_14 : decode cX9_node 14 = .ok (.invokevirtual 185, 3) := by decide +kernel
theorem dX9_node_17 : decode cX9_node 17 = .ok (.ifCond .eq 5, 3) := by decide +kernel
theorem dX9_node_20 : decode cX9_node 20 = .ok (.iconst 0, 1) := by decide +kernel
theorem dX9_node_21 : decode cX9_node 21 = .ok (.ireturn, 1) := by decide +kernel
theorem dX9_node_22 : decode cX9_node 22 = .ok (.iconst 0, 1) := by decide +kernel
theorem dX9_node_23 : decode cX9_node 23 = .ok (.istore_n 2, 1) := by decide +kernel
theorem dX9_node_24 : decode cX9_node 24 = .ok (.iconst 0, 1) := by decide +kernel
theorem dX9_node_25 : decode cX9_node 25 = .ok (.istore_n 3, 1) := by decide +kernel
theorem dX9_node_26 : decode cX9_node 26 = .ok (.iload_n 3, 1) := by decide +kernel
theorem dX9_node_27 : decode cX9_node 27 = .ok (.aload_n 0, 1) := by decide +kernel
theorem dX9_node_28 : decode cX9_node 28 = .ok (.getfield 310, 3) := by decide +kernel
theorem dX9_node_31 : decode cX9_node 31 = .ok (.if_icmp .ge 27, 3) := by decide +kernel
theorem dX9_node_34 : decode cX9_node 34 = .ok (.iload_n 2, 1) := by decide +kernel
theorem dX9_node_35 : decode cX9_node 35 = .ok (.aload_n 0, 1) := by decide +kernel
theorem dX9_node_36 : decode cX9_node 36 = .ok (.getfield 96, 3) := by decide +kernel
theorem dX9_node_39 : decode cX9_node 39 = .ok (.iload_n 3, 1) := by decide +kernel
theorem dX9_node_40 : decode cX9_node 40 = .ok (.iaload, 1) := by decide +kernel
theorem dX9_node_41 : decode cX9_node 41 = .ok (.iload_n 1, 1) := by decide +kernel
theorem dX9_node_42 : decode cX9_node 42 = .ok (.if_icmp .ne 7, 3) := by decide +kernel
theorem dX9_node_45 : decode cX9_node 45 = .ok (.iconst 1, 1) := by decide +kernel
theorem dX9_node_46 : decode cX9_node 46 = .ok (.goto 4, 3) := by decide +kernel
theorem dX9_node_49 : decode cX9_node 49 = .ok (.iconst 0, 1) := by decide +kernel
theorem dX9_node_50 : decode cX9_node 50 = .ok (.iadd, 1) := by decide +kernel
theorem dX9_node_51 : decode cX9_node 51 = .ok (.istore_n 2, 1) := by decide +kernel
theorem dX9_node_52 : decode cX9_node 52 = .ok (.iinc 3 1, 3) := by decide +kernel
theorem dX9_node_55 : decode cX9_node 55 = .ok (.goto (-29), 3) := by decide +kernel
theorem dX9_node_58 : decode cX9_node 58 = .ok (.iconst 0, 1) := by decide +kernel
theorem dX9_node_59 : decode cX9_node 59 = .ok (.istore_n 3, 1) := by decide +kernel
theorem dX9_node_60 : decode cX9_node 60 = .ok (.iconst 0, 1) := by decide +kernel
theorem dX9_node_61 : decode cX9_node 61 = .ok (.istore 4, 2) := by decide +kernel
theorem dX9_node_63 : decode cX9_node 63 = .ok (.iconst 4, 1) := by decide +kernel
theorem dX9_node_64 : decode cX9_node 64 = .ok (.iload_n 1, 1) := by decide +kernel
theorem dX9_node_65 : decode cX9_node 65 = .ok (.imul, 1) := by decide +kernel
theorem dX9_node_66 : decode cX9_node 66 = .ok (.istore 5, 2) := by decide +kernel
theorem dX9_node_68 : decode cX9_node 68 = .ok (.iload 5, 2) := by decide +kernel
theorem dX9_node_70 : decode cX9_node 70 = .ok (.iconst 4, 1) := by decide +kernel
theorem dX9_node_71 : decode cX9_node 71 = .ok (.iload_n 1, 1) := by decide +kernel
theorem dX9_node_72 : decode cX9_node 72 = .ok (.imul, 1) := by decide +kernel
theorem dX9_node_73 : decode cX9_node 73 = .ok (.iconst 4, 1) := by decide +kernel
theorem dX9_node_74 : decode cX9_node 74 = .ok (.iadd, 1) := by decide +kernel
theorem dX9_node_75 : decode cX9_node 75 = .ok (.if_icmp .ge 53, 3) := by decide +kernel
theorem dX9_node_78 : decode cX9_node 78 = .ok (.iload_n 3, 1) := by decide +kernel
theorem dX9_node_79 : decode cX9_node 79 = .ok (.ifCond .ne 14, 3) := by decide +kernel
theorem dX9_node_82 : decode cX9_node 82 = .ok (.aload_n 0, 1) := by decide +kernel
theorem dX9_node_83 : decode cX9_node 83 = .ok (.getfield 120, 3) := by decide +kernel
theorem dX9_node_86 : decode cX9_node 86 = .ok (.iload 5, 2) := by decide +kernel
theorem dX9_node_88 : decode cX9_node 88 = .ok (.iaload, 1) := by decide +kernel
theorem dX9_node_89 : decode cX9_node 89 = .ok (.iconst 1, 1) := by decide +kernel
theorem dX9_node_90 : decode cX9_node 90 = .ok (.if_icmp .ne 7, 3) := by decide +kernel
theorem dX9_node_93 : decode cX9_node 93 = .ok (.iconst 1, 1) := by decide +kernel
theorem dX9_node_94 : decode cX9_node 94 = .ok (.goto 4, 3) := by decide +kernel
theorem dX9_node_97 : decode cX9_node 97 = .ok (.iconst 0, 1) := by decide +kernel
theorem dX9_node_98 : decode cX9_node 98 = .ok (.istore_n 3, 1) := by decide +kernel
theorem dX9_node_99 : decode cX9_node 99 = .ok (.iload 4, 2) := by decide +kernel
theorem dX9_node_101 : decode cX9_node 101 = .ok (.ifCond .ne 14, 3) := by decide +kernel
theorem dX9_node_104 : decode cX9_node 104 = .ok (.aload_n 0, 1) := by decide +kernel
theorem dX9_node_105 : decode cX9_node 105 = .ok (.getfield 120, 3) := by decide +kernel
theorem dX9_node_108 : decode cX9_node 108 = .ok (.iload 5, 2) := by decide +kernel
theorem dX9_node_110 : decode cX9_node 110 = .ok (.iaload, 1) := by decide +kernel
theorem dX9_node_111 : decode cX9_node 111 = .ok (.iconst 2, 1) := by decide +kernel
theorem dX9_node_112 : decode cX9_node 112 = .ok (.if_icmp .ne 7, 3) := by decide +kernel
theorem dX9_node_115 : decode cX9_node 115 = .ok (.iconst 1, 1) := by decide +kernel
theorem dX9_node_116 : decode cX9_node 116 = .ok (.goto 4, 3) := by decide +kernel
theorem dX9_node_119 : decode cX9_node 119 = .ok (.iconst 0, 1) := by decide +kernel
theorem dX9_node_120 : decode cX9_node 120 = .ok (.istore 4, 2) := by decide +kernel
theorem dX9_node_122 : decode cX9_node 122 = .ok (.iinc 5 1, 3) := by decide +kernel
theorem dX9_node_125 : decode cX9_node 125 = .ok (.goto (-57), 3) := by decide +kernel
theorem dX9_node_128 : decode cX9_node 128 = .ok (.sipush 1000, 3) := by decide +kernel
theorem dX9_node_131 : decode cX9_node 131 = .ok (.iload_n 2, 1) := by decide +kernel
theorem dX9_node_132 : decode cX9_node 132 = .ok (.imul, 1) := by decide +kernel
theorem dX9_node_133 : decode cX9_node 133 = .ok (.bipush 10, 2) := by decide +kernel
theorem dX9_node_135 : decode cX9_node 135 = .ok (.aload_n 0, 1) := by decide +kernel
theorem dX9_node_136 : decode cX9_node 136 = .ok (.getfield 102, 3) := by decide +kernel
theorem dX9_node_139 : decode cX9_node 139 = .ok (.iload_n 1, 1) := by decide +kernel
theorem dX9_node_140 : decode cX9_node 140 = .ok (.iaload, 1) := by decide +kernel
theorem dX9_node_141 : decode cX9_node 141 = .ok (.iconst 2, 1) := by decide +kernel
theorem dX9_node_142 : decode cX9_node 142 = .ok (.iadd, 1) := by decide +kernel
theorem dX9_node_143 : decode cX9_node 143 = .ok (.imul, 1) := by decide +kernel
theorem dX9_node_144 : decode cX9_node 144 = .ok (.iadd, 1) := by decide +kernel
theorem dX9_node_145 : decode cX9_node 145 = .ok (.iload_n 3, 1) := by decide +kernel
theorem dX9_node_146 : decode cX9_node 146 = .ok (.ifCond .eq 12, 3) := by decide +kernel
theorem dX9_node_149 : decode cX9_node 149 = .ok (.iload 4, 2) := by decide +kernel
theorem dX9_node_151 : decode cX9_node 151 = .ok (.ifCond .eq 7, 3) := by decide +kernel
theorem dX9_node_154 : decode cX9_node 154 = .ok (.iconst 1, 1) := by decide +kernel
theorem dX9_node_155 : decode cX9_node 155 = .ok (.goto 4, 3) := by decide +kernel
theorem dX9_node_158 : decode cX9_node 158 = .ok (.iconst 0, 1) := by decide +kernel
theorem dX9_node_159 : decode cX9_node 159 = .ok (.iadd, 1) := by decide +kernel
theorem dX9_node_160 : decode cX9_node 160 = .ok (.ireturn, 1) := by decide +kernel
theorem dX9_isRoot_0 : decode cX9_isRoot 0 = .ok (.aload_n 0, 1) := by decide +kernel
theorem dX9_isRoot_1 : decode cX9_isRoot 1 = .ok (.getfield 96, 3) := by decide +kernel
theorem dX9_isRoot_4 : decode cX9_isRoot 4 = .ok (.iload_n 1, 1) := by decide +kernel
theorem dX9_isRoot_5 : decode cX9_isRoot 5 = .ok (.iaload, 1) := by decide +kernel
theorem dX9_isRoot_6 : decode cX9_isRoot 6 = .ok (.iconst (-1), 1) := by decide +kernel
theorem dX9_isRoot_7 : decode cX9_isRoot 7 = .ok (.if_icmp .ne 7, 3) := by decide +kernel
theorem dX9_isRoot_10 : decode cX9_isRoot 10 = .ok (.iconst 1, 1) := by decide +kernel
theorem dX9_isRoot_11 : decode cX9_isRoot 11 = .ok (.goto 4, 3) := by decide +kernel
theorem dX9_isRoot_14 : decode cX9_isRoot 14 = .ok (.iconst 0, 1) := by decide +kernel
theorem dX9_isRoot_15 : decode cX9_isRoot 15 = .ok (.ireturn, 1) := by decide +kernel
theorem dX9_lacks_0 : decode cX9_lacks 0 = .ok (.iconst 0, 1) := by decide +kernel
theorem dX9_lacks_1 : decode cX9_lacks 1 = .ok (.istore_n 3, 1) := by decide +kernel
theorem dX9_lacks_2 : decode cX9_lacks 2 = .ok (.iconst 0, 1) := by decide +kernel
theorem dX9_lacks_3 : decode cX9_lacks 3 = .ok (.istore 4, 2) := by decide +kernel
theorem dX9_lacks_5 : decode cX9_lacks 5 = .ok (.iload 4, 2) := by decide +kernel
theorem dX9_lacks_7 : decode cX9_lacks 7 = .ok (.aload_n 0, 1) := by decide +kernel
theorem dX9_lacks_8 : decode cX9_lacks 8 = .ok (.getfield 310, 3) := by decide +kernel
theorem dX9_lacks_11 : decode cX9_lacks 11 = .ok (.if_icmp .ge 103, 3) := by decide +kernel
theorem dX9_lacks_14 : decode cX9_lacks 14 = .ok (.aload_n 0, 1) := by decide +kernel
theorem dX9_lacks_15 : decode cX9_lacks 15 = .ok (.getfield 99, 3) := by decide +kernel
theorem dX9_lacks_18 : decode cX9_lacks 18 = .ok (.iload 4, 2) := by decide +kernel
theorem dX9_lacks_20 : decode cX9_lacks 20 = .ok (.iaload, 1) := by decide +kernel
theorem dX9_lacks_21 : decode cX9_lacks 21 = .ok (.iload_n 1, 1) := by decide +kernel
theorem dX9_lacks_22 : decode cX9_lacks 22 = .ok (.if_icmp .ne 86, 3) := by decide +kernel
theorem dX9_lacks_25 : decode cX9_lacks 25 = .ok (.iload 4, 2) := by decide +kernel
theorem dX9_lacks_27 : decode cX9_lacks 27 = .ok (.iload_n 1, 1) := by decide +kernel
theorem dX9_lacks_28 : decode cX9_lacks 28 = .ok (.if_icmp .ne 7, 3) := by decide +kernel
theorem dX9_lacks_31 : decode cX9_lacks 31 = .ok (.iconst (-1), 1) := by decide +kernel
theorem dX9_lacks_32 : decode cX9_lacks 32 = .ok (.goto 15, 3) := by decide +kernel
theorem dX9_lacks_35 : decode cX9_lacks 35 = .ok (.aload_n 0, 1) := by decide +kernel
theorem dX9_lacks_36 : decode cX9_lacks 36 = .ok (.getfield 123, 3) := by decide +kernel
theorem dX9_lacks_39 : decode cX9_lacks 39 = .ok (.aload_n 0, 1) := by decide +kernel
theorem dX9_lacks_40 : decode cX9_lacks 40 = .ok (.getfield 96, 3) := by decide +kernel
theorem dX9_lacks_43 : decode cX9_lacks 43 = .ok (.iload 4, 2) := by decide +kernel
theorem dX9_lacks_45 : decode cX9_lacks 45 = .ok (.iaload, 1) := by decide +kernel
theorem dX9_lacks_46 : decode cX9_lacks 46 = .ok (.iaload, 1) := by decide +kernel
theorem dX9_lacks_47 : decode cX9_lacks 47 = .ok (.istore 5, 2) := by decide +kernel
theorem dX9_lacks_49 : decode cX9_lacks 49 = .ok (.aload_n 0, 1) := by decide +kernel
theorem dX9_lacks_50 : decode cX9_lacks 50 = .ok (.getfield 123, 3) := by decide +kernel
theorem dX9_lacks_53 : decode cX9_lacks 53 = .ok (.iload 4, 2) := by decide +kernel
theorem dX9_lacks_55 : decode cX9_lacks 55 = .ok (.iload 4, 2) := by decide +kernel
theorem dX9_lacks_57 : decode cX9_lacks 57 = .ok (.iload_n 1, 1) := by decide +kernel
theorem dX9_lacks_58 : decode cX9_lacks 58 = .ok (.if_icmp .ne 7, 3) := by decide +kernel
theorem dX9_lacks_61 : decode cX9_lacks 61 = .ok (.iload_n 2, 1) := by decide +kernel
theorem dX9_lacks_62 : decode cX9_lacks 62 = .ok (.goto 26, 3) := by decide +kernel
theorem dX9_lacks_65 : decode cX9_lacks 65 = .ok (.iload 5, 2) := by decide +kernel
theorem dX9_lacks_67 : decode cX9_lacks 67 = .ok (.iconst (-1), 1) := by decide +kernel
theorem dX9_lacks_68 : decode cX9_lacks 68 = .ok (.if_icmp .ne 7, 3) := by decide +kernel
theorem dX9_lacks_71 : decode cX9_lacks 71 = .ok (.iconst (-1), 1) := by decide +kernel
theorem dX9_lacks_72 : decode cX9_lacks 72 = .ok (.goto 16, 3) := by decide +kernel
theorem dX9_lacks_75 : decode cX9_lacks 75 = .ok (.aload_n 0, 1) := by decide +kernel
theorem dX9_lacks_76 : decode cX9_lacks 76 = .ok (.iload 5, 2) := by decide +kernel
theorem dX9_lacks_78 : decode cX9_lacks 78 = .ok (.aload_n 0, 1) := by decide +kernel
theorem dX9_lacks_79 : decode cX9_lacks 79 = .ok (.getfield 102, 3) := by decide +kernel
theorem dX9_lacks_82 : decode cX9_lacks 82 = .ok (.iload 4, 2) := by decide +kernel
theorem dX9_lacks_84 : decode cX9_lacks 84 = .ok (.iaload, 1) := by decide +kernel
theorem dX9_lacks_85 : decode cX9_lacks 85 = .ok (.invokevirtual 323, 3) := by decide +kernel
theorem dX9_lacks_88 : decode cX9_lacks 88 = .ok (.iastore, 1) := by decide +kernel
theorem dX9_lacks_89 : decode cX9_lacks 89 = .ok (.iload_n 3, 1) := by decide +kernel
theorem dX9_lacks_90 : decode cX9_lacks 90 = .ok (.aload_n 0, 1) := by decide +kernel
theorem dX9_lacks_91 : decode cX9_lacks 91 = .ok (.getfield 123, 3) := by decide +kernel
theorem dX9_lacks_94 : decode cX9_lacks 94 = .ok (.iload 4, 2) := by decide +kernel
theorem dX9_lacks_96 : decode cX9_lacks 96 = .ok (.iaload, 1) := by decide +kernel
theorem dX9_lacks_97 : decode cX9_lacks 97 = .ok (.iconst (-1), 1) := by decide +kernel
theorem dX9_lacks_98 : decode cX9_lacks 98 = .ok (.if_icmp .ne 7, 3) := by decide +kernel
theorem dX9_lacks_101 : decode cX9_lacks 101 = .ok (.iconst 1, 1) := by decide +kernel
theorem dX9_lacks_102 : decode cX9_lacks 102 = .ok (.goto 4, 3) := by decide +kernel
theorem dX9_lacks_105 : decode cX9_lacks 105 = .ok (.iconst 0, 1) := by decide +kernel
theorem dX9_lacks_106 : decode cX9_lacks 106 = .ok (.iadd, 1) := by decide +kernel
theorem dX9_lacks_107 : decode cX9_lacks 107 = .ok (.istore_n 3, 1) := by decide +kernel
theorem dX9_lacks_108 : decode cX9_lacks 108 = .ok (.iinc 4 1, 3) := by decide +kernel
theorem dX9_lacks_111 : decode cX9_lacks 111 = .ok (.goto (-106), 3) := by decide +kernel
theorem dX9_lacks_114 : decode cX9_lacks 114 = .ok (.iload_n 3, 1) := by decide +kernel
theorem dX9_lacks_115 : decode cX9_lacks 115 = .ok (.ireturn, 1) := by decide +kernel
theorem dX9_merge_0 : decode cX9_merge 0 = .ok (.aload_n 0, 1) := by decide +kernel
theorem dX9_merge_1 : decode cX9_merge 1 = .ok (.iload_n 1, 1) := by decide +kernel
theorem dX9_merge_2 : decode cX9_merge 2 = .ok (.invokevirtual 320, 3) := by decide +kernel
theorem dX9_merge_5 : decode cX9_merge 5 = .ok (.ifCond .eq 15, 3) := by decide +kernel
theorem dX9_merge_8 : decode cX9_merge 8 = .ok (.aload_n 0, 1) := by decide +kernel
theorem dX9_merge_9 : decode cX9_merge 9 = .ok (.iload_n 2, 1) := by decide +kernel
theorem dX9_merge_10 : decode cX9_merge 10 = .ok (.invokevirtual 320, 3) := by decide +kernel
theorem dX9_merge_13 : decode cX9_merge 13 = .ok (.ifCond .eq 7, 3) := by decide +kernel
theorem dX9_merge_16 : decode cX9_merge 16 = .ok (.iconst 1, 1) := by decide +kernel
theorem dX9_merge_17 : decode cX9_merge 17 = .ok (.goto 4, 3) := by decide +kernel
theorem dX9_merge_20 : decode cX9_merge 20 = .ok (.iconst 0, 1) := by decide +kernel
theorem dX9_merge_21 : decode cX9_merge 21 = .ok (.istore_n 3, 1) := by decide +kernel
theorem dX9_merge_22 : decode cX9_merge 22 = .ok (.iload_n 3, 1) := by decide +kernel
theorem dX9_merge_23 : decode cX9_merge 23 = .ok (.ifCond .eq 58, 3) := by decide +kernel
theorem dX9_merge_26 : decode cX9_merge 26 = .ok (.iload_n 1, 1) := by decide +kernel
theorem dX9_merge_27 : decode cX9_merge 27 = .ok (.iload_n 2, 1) := by decide +kernel
theorem dX9_merge_28 : decode cX9_merge 28 = .ok (.if_icmp .eq 53, 3) := by decide +kernel
theorem dX9_merge_31 : decode cX9_merge 31 = .ok (.aload_n 0, 1) := by decide +kernel
theorem dX9_merge_32 : decode cX9_merge 32 = .ok (.iload_n 1, 1) := by decide +kernel
theorem dX9_merge_33 : decode cX9_merge 33 = .ok (.invokevirtual 329, 3) := by decide +kernel
theorem dX9_merge_36 : decode cX9_merge 36 = .ok (.ifCond .eq 45, 3) := by decide +kernel
theorem dX9_merge_39 : decode cX9_merge 39 = .ok (.aload_n 0, 1) := by decide +kernel
theorem dX9_merge_40 : decode cX9_merge 40 = .ok (.iload_n 2, 1) := by decide +kernel
theorem dX9_merge_41 : decode cX9_merge 41 = .ok (.invokevirtual 329, 3) := by decide +kernel
theorem dX9_merge_44 : decode cX9_merge 44 = .ok (.ifCond .eq 37, 3) := by decide +kernel
theorem dX9_merge_47 : decode cX9_merge 47 = .ok (.aload_n 0, 1) := by decide +kernel
theorem dX9_merge_48 : decode cX9_merge 48 = .ok (.getfield 105, 3) := by decide +kernel
theorem dX9_merge_51 : decode cX9_merge 51 = .ok (.iload_n 1, 1) := by decide +kernel
theorem dX9_merge_52 : decode cX9_merge 52 = .ok (.iaload, 1) := by decide +kernel
theorem dX9_merge_53 : decode cX9_merge 53 = .ok (.aload_n 0, 1) := by decide +kernel
theorem dX9_merge_54 : decode cX9_merge 54 = .ok (.getfield 105, 3) := by decide +kernel
theorem dX9_merge_57 : decode cX9_merge 57 = .ok (.iload_n 2, 1) := by decide +kernel
theorem dX9_merge_58 : decode cX9_merge 58 = .ok (.iaload, 1) := by decide +kernel
theorem dX9_merge_59 : decode cX9_merge 59 = .ok (.if_icmp .ne 22, 3) := by decide +kernel
theorem dX9_merge_62 : decode cX9_merge 62 = .ok (.aload_n 0, 1) := by decide +kernel
theorem dX9_merge_63 : decode cX9_merge 63 = .ok (.getfield 108, 3) := by decide +kernel
theorem dX9_merge_66 : decode cX9_merge 66 = .ok (.iload_n 1, 1) := by decide +kernel
theorem dX9_merge_67 : decode cX9_merge 67 = .ok (.iaload, 1) := by decide +kernel
theorem dX9_merge_68 : decode cX9_merge 68 = .ok (.aload_n 0, 1) := by decide +kernel
theorem dX9_merge_69 : decode cX9_merge 69 = .ok (.getfield 108, 3) := by decide +kernel
theorem dX9_merge_72 : decode cX9_merge 72 = .ok (.iload_n 2, 1) := by decide +kernel
theorem dX9_merge_73 : decode cX9_merge 73 = .ok (.iaload, 1) := by decide +kernel
theorem dX9_merge_74 : decode cX9_merge 74 = .ok (.if_icmp .ne 7, 3) := by decide +kernel
theorem dX9_merge_77 : decode cX9_merge 77 = .ok (.iconst 1, 1) := by decide +kernel
theorem dX9_merge_78 : decode cX9_merge 78 = .ok (.goto 4, 3) := by decide +kernel
theorem dX9_merge_81 : decode cX9_merge 81 = .ok (.iconst 0, 1) := by decide +kernel
theorem dX9_merge_82 : decode cX9_merge 82 = .ok (.istore 4, 2) := by decide +kernel
theorem dX9_merge_84 : decode cX9_merge 84 = .ok (.aload_n 0, 1) := by decide +kernel
theorem dX9_merge_85 : decode cX9_merge 85 = .ok (.iload_n 3, 1) := by decide +kernel
theorem dX9_merge_86 : decode cX9_merge 86 = .ok (.ifCond .ne 7, 3) := by decide +kernel
theorem dX9_merge_89 : decode cX9_merge 89 = .ok (.iconst 1, 1) := by decide +kernel
theorem dX9_merge_90 : decode cX9_merge 90 = .ok (.goto 33, 3) := by decide +kernel
theorem dX9_merge_93 : decode cX9_merge 93 = .ok (.iload 4, 2) := by decide +kernel
theorem dX9_merge_95 : decode cX9_merge 95 = .ok (.ifCond .ne 7, 3) := by decide +kernel
theorem dX9_merge_98 : decode cX9_merge 98 = .ok (.iconst 2, 1) := by decide +kernel
theorem dX9_merge_99 : decode cX9_merge 99 = .ok (.goto 24, 3) := by decide +kernel
theorem dX9_merge_102 : decode cX9_merge 102 = .ok (.aload_n 0, 1) := by decide +kernel
theorem dX9_merge_103 : decode cX9_merge 103 = .ok (.getfield 310, 3) := by decide +kernel
theorem dX9_merge_106 : decode cX9_merge 106 = .ok (.aload_n 0, 1) := by decide +kernel
theorem dX9_merge_107 : decode cX9_merge 107 = .ok (.iload_n 1, 1) := by decide +kernel
theorem dX9_merge_108 : decode cX9_merge 108 = .ok (.iload_n 2, 1) := by decide +kernel
theorem dX9_merge_109 : decode cX9_merge 109 = .ok (.invokevirtual 332, 3) := by decide +kernel
theorem dX9_merge_112 : decode cX9_merge 112 = .ok (.iadd, 1) := by decide +kernel
theorem dX9_merge_113 : decode cX9_merge 113 = .ok (.bipush 60, 2) := by decide +kernel
theorem dX9_merge_115 : decode cX9_merge 115 = .ok (.if_icmp .le 7, 3) := by decide +kernel
theorem dX9_merge_118 : decode cX9_merge 118 = .ok (.iconst 3, 1) := by decide +kernel
theorem dX9_merge_119 : decode cX9_merge 119 = .ok (.goto 4, 3) := by decide +kernel
theorem dX9_merge_122 : decode cX9_merge 122 = .ok (.iconst 0, 1) := by decide +kernel
theorem dX9_merge_123 : decode cX9_merge 123 = .ok (.invokevirtual 185, 3) := by decide +kernel
theorem dX9_merge_126 : decode cX9_merge 126 = .ok (.ifCond .eq 5, 3) := by decide +kernel
theorem dX9_merge_129 : decode cX9_merge 129 = .ok (.iconst 0, 1) := by decide +kernel
theorem dX9_merge_130 : decode cX9_merge 130 = .ok (.ireturn, 1) := by decide +kernel
theorem dX9_merge_131 : decode cX9_merge 131 = .ok (.aload_n 0, 1) := by decide +kernel
theorem dX9_merge_132 : decode cX9_merge 132 = .ok (.getfield 310, 3) := by decide +kernel
theorem dX9_merge_135 : decode cX9_merge 135 = .ok (.istore 5, 2) := by decide +kernel
theorem dX9_merge_137 : decode cX9_merge 137 = .ok (.iconst 0, 1) := by decide +kernel
theorem dX9_merge_138 : decode cX9_merge 138 = .ok (.istore 6, 2) := by decide +kernel
theorem dX9_merge_140 : decode cX9_merge 140 = .ok (.iload 6, 2) := by decide +kernel
theorem dX9_merge_142 : decode cX9_merge 142 = .ok (.iload 5, 2) := by decide +kernel
theorem dX9_merge_144 : decode cX9_merge 144 = .ok (.if_icmp .ge 150, 3) := by decide +kernel
theorem dX9_merge_147 : decode cX9_merge 147 = .ok (.aload_n 0, 1) := by decide +kernel
theorem dX9_merge_148 : decode cX9_merge 148 = .ok (.getfield 99, 3) := by decide +kernel
theorem dX9_merge_151 : decode cX9_merge 151 = .ok (.iload 6, 2) := by decide +kernel
theorem dX9_merge_153 : decode cX9_merge 153 = .ok (.iaload, 1) := by decide +kernel
theorem dX9_merge_154 : decode cX9_merge 154 = .ok (.iload_n 1, 1) := by decide +kernel
theorem dX9_merge_155 : decode cX9_merge 155 = .ok (.if_icmp .ne 133, 3) := by decide +kernel
theorem dX9_merge_158 : decode cX9_merge 158 = .ok (.aload_n 0, 1) := by decide +kernel
theorem dX9_merge_159 : decode cX9_merge 159 = .ok (.getfield 123, 3) := by decide +kernel
theorem dX9_merge_162 : decode cX9_merge 162 = .ok (.iload 6, 2) := by decide +kernel
theorem dX9_merge_164 : decode cX9_merge 164 = .ok (.iaload, 1) := by decide +kernel
theorem dX9_merge_165 : decode cX9_merge 165 = .ok (.iconst (-1), 1) := by decide +kernel
theorem dX9_merge_166 : decode cX9_merge 166 = .ok (.if_icmp .ne 54, 3) := by decide +kernel
theorem dX9_merge_169 : decode cX9_merge 169 = .ok (.aload_n 0, 1) := by decide +kernel
theorem dX9_merge_170 : decode cX9_merge 170 = .ok (.getfield 123, 3) := by decide +kernel
theorem dX9_merge_173 : decode cX9_merge 173 = .ok (.iload 6, 2) := by decide +kernel
theorem dX9_merge_175 : decode cX9_merge 175 = .ok (.aload_n 0, 1) := by decide +kernel
theorem dX9_merge_176 : decode cX9_merge 176 = .ok (.aload_n 0, 1) := by decide +kernel
theorem dX9_merge_177 : decode cX9_merge 177 = .ok (.getfield 123, 3) := by decide +kernel
theorem dX9_merge_180 : decode cX9_merge 180 = .ok (.aload_n 0, 1) := by decide +kernel
theorem dX9_merge_181 : decode cX9_merge 181 = .ok (.getfield 96, 3) := by decide +kernel
theorem dX9_merge_184 : decode cX9_merge 184 = .ok (.iload 6, 2) := by decide +kernel
theorem dX9_merge_186 : decode cX9_merge 186 = .ok (.iaload, 1) := by decide +kernel
theorem dX9_merge_187 : decode cX9_merge 187 = .ok (.iaload, 1) := by decide +kernel
theorem dX9_merge_188 : decode cX9_merge 188 = .ok (.aload_n 0, 1) := by decide +kernel
theorem dX9_merge_189 : decode cX9_merge 189 = .ok (.getfield 102, 3) := by decide +kernel
theorem dX9_merge_192 : decode cX9_merge 192 = .ok (.iload 6, 2) := by decide +kernel
theorem dX9_merge_194 : decode cX9_merge 194 = .ok (.iaload, 1) := by decide +kernel
theorem dX9_merge_195 : decode cX9_merge 195 = .ok (.aload_n 0, 1) := by decide +kernel
theorem dX9_merge_196 : decode cX9_merge 196 = .ok (.getfield 114, 3) := by decide +kernel
theorem dX9_merge_199 : decode cX9_merge 199 = .ok (.iload 6, 2) := by decide +kernel
theorem dX9_merge_201 : decode cX9_merge 201 = .ok (.laload, 1) := by decide +kernel
theorem dX9_merge_202 : decode cX9_merge 202 = .ok (.aload_n 0, 1) := by decide +kernel
theorem dX9_merge_203 : decode cX9_merge 203 = .ok (.getfield 117, 3) := by decide +kernel
theorem dX9_merge_206 : decode cX9_merge 206 = .ok (.iload 6, 2) := by decide +kernel
theorem dX9_merge_208 : decode cX9_merge 208 = .ok (.laload, 1) := by decide +kernel
theorem dX9_merge_209 : decode cX9_merge 209 = .ok (.aload_n 0, 1) := by decide +kernel
theorem dX9_merge_210 : decode cX9_merge 210 = .ok (.getfield 111, 3) := by decide +kernel
theorem dX9_merge_213 : decode cX9_merge 213 = .ok (.iload 6, 2) := by decide +kernel
theorem dX9_merge_215 : decode cX9_merge 215 = .ok (.iaload, 1) := by decide +kernel
theorem dX9_merge_216 : decode cX9_merge 216 = .ok (.invokevirtual 316, 3) := by decide +kernel
theorem dX9_merge_219 : decode cX9_merge 219 = .ok (.iastore, 1) := by decide +kernel
theorem dX9_merge_220 : decode cX9_merge 220 = .ok (.iconst 0, 1) := by decide +kernel
theorem dX9_merge_221 : decode cX9_merge 221 = .ok (.istore 7, 2) := by decide +kernel
theorem dX9_merge_223 : decode cX9_merge 223 = .ok (.iload 7, 2) := by decide +kernel
theorem dX9_merge_225 : decode cX9_merge 225 = .ok (.iconst 4, 1) := by decide +kernel
theorem dX9_merge_226 : decode cX9_merge 226 = .ok (.if_icmp .ge 62, 3) := by decide +kernel
theorem dX9_merge_229 : decode cX9_merge 229 = .ok (.iconst 4, 1) := by decide +kernel
theorem dX9_merge_230 : decode cX9_merge 230 = .ok (.aload_n 0, 1) := by decide +kernel
theorem dX9_merge_231 : decode cX9_merge 231 = .ok (.getfield 123, 3) := by decide +kernel
theorem dX9_merge_234 : decode cX9_merge 234 = .ok (.iload 6, 2) := by decide +kernel
theorem dX9_merge_236 : decode cX9_merge 236 = .ok (.iaload, 1) := by decide +kernel
theorem dX9_merge_237 : decode cX9_merge 237 = .ok (.imul, 1) := by decide +kernel
theorem dX9_merge_238 : decode cX9_merge 238 = .ok (.iload 7, 2) := by decide +kernel
theorem dX9_merge_240 : decode cX9_merge 240 = .ok (.iadd, 1) := by decide +kernel
theorem dX9_merge_241 : decode cX9_merge 241 = .ok (.istore 8, 2) := by decide +kernel
theorem dX9_merge_243 : decode cX9_merge 243 = .ok (.aload_n 0, 1) := by decide +kernel
theorem dX9_merge_244 : decode cX9_merge 244 = .ok (.getfield 120, 3) := by decide +kernel
theorem dX9_merge_247 : decode cX9_merge 247 = .ok (.iload 8, 2) := by decide +kernel
theorem dX9_merge_249 : decode cX9_merge 249 = .ok (.aload_n 0, 1) := by decide +kernel
theorem dX9_merge_250 : decode cX9_merge 250 = .ok (.getfield 120, 3) := by decide +kernel
theorem dX9_merge_253 : decode cX9_merge 253 = .ok (.iload 8, 2) := by decide +kernel
theorem dX9_merge_255 : decode cX9_merge 255 = .ok (.iaload, 1) := by decide +kernel
theorem dX9_merge_256 : decode cX9_merge 256 = .ok (.ifCond .ne 18, 3) := by decide +kernel
theorem dX9_merge_259 : decode cX9_merge 259 = .ok (.aload_n 0, 1) := by decide +kernel
theorem dX9_merge_260 : decode cX9_merge 260 = .ok (.getfield 120, 3) := by decide +kernel
theorem dX9_merge_263 : decode cX9_merge 263 = .ok (.iconst 4, 1) := by decide +kernel
theorem dX9_merge_264 : decode cX9_merge 264 = .ok (.iload 6, 2) := by decide +kernel
theorem dX9_merge_266 : decode cX9_merge 266 = .ok (.imul, 1) := by decide +kernel
theorem dX9_merge_267 : decode cX9_merge 267 = .ok (.iload 7, 2) := by decide +kernel
theorem dX9_merge_269 : decode cX9_merge 269 = .ok (.iadd, 1) := by decide +kernel
theorem dX9_merge_270 : decode cX9_merge 270 = .ok (.iaload, 1) := by decide +kernel
theorem dX9_merge_271 : decode cX9_merge 271 = .ok (.goto 10, 3) := by decide +kernel
theorem dX9_merge_274 : decode cX9_merge 274 = .ok (.aload_n 0, 1) := by decide +kernel
theorem dX9_merge_275 : decode cX9_merge 275 = .ok (.getfield 120, 3) := by decide +kernel
theorem dX9_merge_278 : decode cX9_merge 278 = .ok (.iload 8, 2) := by decide +kernel
theorem dX9_merge_280 : decode cX9_merge 280 = .ok (.iaload, 1) := by decide +kernel
theorem dX9_merge_281 : decode cX9_merge 281 = .ok (.iastore, 1) := by decide +kernel
theorem dX9_merge_282 : decode cX9_merge 282 = .ok (.iinc 7 1, 3) := by decide +kernel
theorem dX9_merge_285 : decode cX9_merge 285 = .ok (.goto (-62), 3) := by decide +kernel
theorem dX9_merge_288 : decode cX9_merge 288 = .ok (.iinc 6 1, 3) := by decide +kernel
theorem dX9_merge_291 : decode cX9_merge 291 = .ok (.goto (-151), 3) := by decide +kernel
theorem dX9_merge_294 : decode cX9_merge 294 = .ok (.aload_n 0, 1) := by decide +kernel
theorem dX9_merge_295 : decode cX9_merge 295 = .ok (.getfield 310, 3) := by decide +kernel
theorem dX9_merge_298 : decode cX9_merge 298 = .ok (.iload 5, 2) := by decide +kernel
theorem dX9_merge_300 : decode cX9_merge 300 = .ok (.isub, 1) := by decide +kernel
theorem dX9_merge_301 : decode cX9_merge 301 = .ok (.ireturn, 1) := by decide +kernel
theorem dL_player_0 : decode cL_player 0 = .ok (.aload_n 2, 1) := by decide +kernel
theorem dL_player_1 : decode cL_player 1 = .ok (.iconst 0, 1) := by decide +kernel
theorem dL_player_2 : decode cL_player 2 = .ok (.aload_n 0, 1) := by decide +kernel
theorem dL_player_3 : decode cL_player 3 = .ok (.iload_n 1, 1) := by decide +kernel
theorem dL_player_4 : decode cL_player 4 = .ok (.invokevirtual 7, 3) := by decide +kernel
theorem dL_player_7 : decode cL_player 7 = .ok (.i2l, 1) := by decide +kernel
theorem dL_player_8 : decode cL_player 8 = .ok (.lastore, 1) := by decide +kernel
theorem dL_player_9 : decode cL_player 9 = .ok (.goto 9, 3) := by decide +kernel
theorem dL_player_12 : decode cL_player 12 = .ok (.astore_n 3, 1) := by decide +kernel
theorem dL_player_13 : decode cL_player 13 = .ok (.iconst 1, 1) := by decide +kernel
theorem dL_player_14 : decode cL_player 14 = .ok (.ireturn, 1) := by decide +kernel
theorem dL_player_15 : decode cL_player 15 = .ok (.astore_n 3, 1) := by decide +kernel
theorem dL_player_16 : decode cL_player 16 = .ok (.iconst 2, 1) := by decide +kernel
theorem dL_player_17 : decode cL_player 17 = .ok (.ireturn, 1) := by decide +kernel
theorem dL_player_18 : decode cL_player 18 = .ok (.iconst 0, 1) := by decide +kernel
theorem dL_player_19 : decode cL_player 19 = .ok (.ireturn, 1) := by decide +kernel
theorem dL_rank_0 : decode cL_rank 0 = .ok (.aload_n 2, 1) := by decide +kernel
theorem dL_rank_1 : decode cL_rank 1 = .ok (.iconst 0, 1) := by decide +kernel
theorem dL_rank_2 : decode cL_rank 2 = .ok (.aload_n 0, 1) := by decide +kernel
theorem dL_rank_3 : decode cL_rank 3 = .ok (.iload_n 1, 1) := by decide +kernel
theorem dL_rank_4 : decode cL_rank 4 = .ok (.invokevirtual 17, 3) := by decide +kernel
theorem dL_rank_7 : decode cL_rank 7 = .ok (.i2l, 1) := by decide +kernel
theorem dL_rank_8 : decode cL_rank 8 = .ok (.lastore, 1) := by decide +kernel
theorem dL_rank_9 : decode cL_rank 9 = .ok (.goto 6, 3) := by decide +kernel
theorem dL_rank_12 : decode cL_rank 12 = .ok (.astore_n 3, 1) := by decide +kernel
theorem dL_rank_13 : decode cL_rank 13 = .ok (.iconst 1, 1) := by decide +kernel
theorem dL_rank_14 : decode cL_rank 14 = .ok (.ireturn, 1) := by decide +kernel
theorem dL_rank_15 : decode cL_rank 15 = .ok (.iconst 0, 1) := by decide +kernel
theorem dL_rank_16 : decode cL_rank 16 = .ok (.ireturn, 1) := by decide +kernel
theorem dL_game_0 : decode cL_game 0 = .ok (.aload 6, 2) := by decide +kernel
theorem dL_game_2 : decode cL_game 2 = .ok (.iconst 0, 1) := by decide +kernel
theorem dL_game_3 : decode cL_game 3 = .ok (.aload_n 0, 1) := by decide +kernel
theorem dL_game_4 : decode cL_game 4 = .ok (.iload_n 1, 1) := by decide +kernel
theorem dL_game_5 : decode cL_game 5 = .ok (.iload_n 2, 1) := by decide +kernel
theorem dL_game_6 : decode cL_game 6 = .ok (.iload_n 3, 1) := by decide +kernel
theorem dL_game_7 : decode cL_game 7 = .ok (.iload 4, 2) := by decide +kernel
theorem dL_game_9 : decode cL_game 9 = .ok (.iload 5, 2) := by decide +kernel
theorem dL_game_11 : decode cL_game 11 = .ok (.invokevirtual 22, 3) := by decide +kernel
theorem dL_game_14 : decode cL_game 14 = .ok (.i2l, 1) := by decide +kernel
theorem dL_game_15 : decode cL_game 15 = .ok (.lastore, 1) := by decide +kernel
theorem dL_game_16 : decode cL_game 16 = .ok (.goto 15, 3) := by decide +kernel
theorem dL_game_19 : decode cL_game 19 = .ok (.astore 7, 2) := by decide +kernel
theorem dL_game_21 : decode cL_game 21 = .ok (.iconst 1, 1) := by decide +kernel
theorem dL_game_22 : decode cL_game 22 = .ok (.ireturn, 1) := by decide +kernel
theorem dL_game_23 : decode cL_game 23 = .ok (.astore 7, 2) := by decide +kernel
theorem dL_game_25 : decode cL_game 25 = .ok (.iconst 2, 1) := by decide +kernel
theorem dL_game_26 : decode cL_game 26 = .ok (.ireturn, 1) := by decide +kernel
theorem dL_game_27 : decode cL_game 27 = .ok (.astore 7, 2) := by decide +kernel
theorem dL_game_29 : decode cL_game 29 = .ok (.iconst 3, 1) := by decide +kernel
theorem dL_game_30 : decode cL_game 30 = .ok (.ireturn, 1) := by decide +kernel
theorem dL_game_31 : decode cL_game 31 = .ok (.iconst 0, 1) := by decide +kernel
theorem dL_game_32 : decode cL_game 32 = .ok (.ireturn, 1) := by decide +kernel
theorem dL_play_0 : decode cL_play 0 = .ok (.aload 4, 2) := by decide +kernel
theorem dL_play_2 : decode cL_play 2 = .ok (.iconst 0, 1) := by decide +kernel
theorem dL_play_3 : decode cL_play 3 = .ok (.aload_n 0, 1) := by decide +kernel
theorem dL_play_4 : decode cL_play 4 = .ok (.iload_n 1, 1) := by decide +kernel
theorem dL_play_5 : decode cL_play 5 = .ok (.iload_n 2, 1) := by decide +kernel
theorem dL_play_6 : decode cL_play 6 = .ok (.iload_n 3, 1) := by decide +kernel
theorem dL_play_7 : decode cL_play 7 = .ok (.invokevirtual 26, 3) := by decide +kernel
theorem dL_play_10 : decode cL_play 10 = .ok (.i2l, 1) := by decide +kernel
theorem dL_play_11 : decode cL_play 11 = .ok (.lastore, 1) := by decide +kernel
theorem dL_play_12 : decode cL_play 12 = .ok (.goto 15, 3) := by decide +kernel
theorem dL_play_15 : decode cL_play 15 = .ok (.astore 5, 2) := by decide +kernel
theorem dL_play_17 : decode cL_play 17 = .ok (.iconst 1, 1) := by decide +kernel
theorem dL_play_18 : decode cL_play 18 = .ok (.ireturn, 1) := by decide +kernel
theorem dL_play_19 : decode cL_play 19 = .ok (.astore 5, 2) := by decide +kernel
theorem dL_play_21 : decode cL_play 21 = .ok (.iconst 2, 1) := by decide +kernel
theorem dL_play_22 : decode cL_play 22 = .ok (.ireturn, 1) := by decide +kernel
theorem dL_play_23 : decode cL_play 23 = .ok (.astore 5, 2) := by decide +kernel
theorem dL_play_25 : decode cL_play 25 = .ok (.iconst 3, 1) := by decide +kernel
theorem dL_play_26 : decode cL_play 26 = .ok (.ireturn, 1) := by decide +kernel
theorem dL_play_27 : decode cL_play 27 = .ok (.iconst 0, 1) := by decide +kernel
theorem dL_play_28 : decode cL_play 28 = .ok (.ireturn, 1) := by decide +kernel
theorem dL_pass_0 : decode cL_pass 0 = .ok (.aload_n 3, 1) := by decide +kernel
theorem dL_pass_1 : decode cL_pass 1 = .ok (.iconst 0, 1) := by decide +kernel
theorem dL_pass_2 : decode cL_pass 2 = .ok (.aload_n 0, 1) := by decide +kernel
theorem dL_pass_3 : decode cL_pass 3 = .ok (.iload_n 1, 1) := by decide +kernel
theorem dL_pass_4 : decode cL_pass 4 = .ok (.iload_n 2, 1) := by decide +kernel
theorem dL_pass_5 : decode cL_pass 5 = .ok (.invokevirtual 30, 3) := by decide +kernel
theorem dL_pass_8 : decode cL_pass 8 = .ok (.i2l, 1) := by decide +kernel
theorem dL_pass_9 : decode cL_pass 9 = .ok (.lastore, 1) := by decide +kernel
theorem dL_pass_10 : decode cL_pass 10 = .ok (.goto 15, 3) := by decide +kernel
theorem dL_pass_13 : decode cL_pass 13 = .ok (.astore 4, 2) := by decide +kernel
theorem dL_pass_15 : decode cL_pass 15 = .ok (.iconst 1, 1) := by decide +kernel
theorem dL_pass_16 : decode cL_pass 16 = .ok (.ireturn, 1) := by decide +kernel
theorem dL_pass_17 : decode cL_pass 17 = .ok (.astore 4, 2) := by decide +kernel
theorem dL_pass_19 : decode cL_pass 19 = .ok (.iconst 2, 1) := by decide +kernel
theorem dL_pass_20 : decode cL_pass 20 = .ok (.ireturn, 1) := by decide +kernel
theorem dL_pass_21 : decode cL_pass 21 = .ok (.astore 4, 2) := by decide +kernel
theorem dL_pass_23 : decode cL_pass 23 = .ok (.iconst 3, 1) := by decide +kernel
theorem dL_pass_24 : decode cL_pass 24 = .ok (.ireturn, 1) := by decide +kernel
theorem dL_pass_25 : decode cL_pass 25 = .ok (.iconst 0, 1) := by decide +kernel
theorem dL_pass_26 : decode cL_pass 26 = .ok (.ireturn, 1) := by decide +kernel
theorem dL_resign_0 : decode cL_resign 0 = .ok (.aload_n 2, 1) := by decide +kernel
theorem dL_resign_1 : decode cL_resign 1 = .ok (.iconst 0, 1) := by decide +kernel
theorem dL_resign_2 : decode cL_resign 2 = .ok (.aload_n 0, 1) := by decide +kernel
theorem dL_resign_3 : decode cL_resign 3 = .ok (.iload_n 1, 1) := by decide +kernel
theorem dL_resign_4 : decode cL_resign 4 = .ok (.invokevirtual 34, 3) := by decide +kernel
theorem dL_resign_7 : decode cL_resign 7 = .ok (.i2l, 1) := by decide +kernel
theorem dL_resign_8 : decode cL_resign 8 = .ok (.lastore, 1) := by decide +kernel
theorem dL_resign_9 : decode cL_resign 9 = .ok (.goto 9, 3) := by decide +kernel
theorem dL_resign_12 : decode cL_resign 12 = .ok (.astore_n 3, 1) := by decide +kernel
theorem dL_resign_13 : decode cL_resign 13 = .ok (.iconst 1, 1) := by decide +kernel
theorem dL_resign_14 : decode cL_resign 14 = .ok (.ireturn, 1) := by decide +kernel
theorem dL_resign_15 : decode cL_resign 15 = .ok (.astore_n 3, 1) := by decide +kernel
theorem dL_resign_16 : decode cL_resign 16 = .ok (.iconst 2, 1) := by decide +kernel
theorem dL_resign_17 : decode cL_resign 17 = .ok (.ireturn, 1) := by decide +kernel
theorem dL_resign_18 : decode cL_resign 18 = .ok (.iconst 0, 1) := by decide +kernel
theorem dL_resign_19 : decode cL_resign 19 = .ok (.ireturn, 1) := by decide +kernel
theorem dL_state_0 : decode cL_state 0 = .ok (.aload_n 2, 1) := by decide +kernel
theorem dL_state_1 : decode cL_state 1 = .ok (.iconst 0, 1) := by decide +kernel
theorem dL_state_2 : decode cL_state 2 = .ok (.aload_n 0, 1) := by decide +kernel
theorem dL_state_3 : decode cL_state 3 = .ok (.iload_n 1, 1) := by decide +kernel
theorem dL_state_4 : decode cL_state 4 = .ok (.invokevirtual 37, 3) := by decide +kernel
theorem dL_state_7 : decode cL_state 7 = .ok (.i2l, 1) := by decide +kernel
theorem dL_state_8 : decode cL_state 8 = .ok (.lastore, 1) := by decide +kernel
theorem dL_state_9 : decode cL_state 9 = .ok (.goto 6, 3) := by decide +kernel
theorem dL_state_12 : decode cL_state 12 = .ok (.astore_n 3, 1) := by decide +kernel
theorem dL_state_13 : decode cL_state 13 = .ok (.iconst 1, 1) := by decide +kernel
theorem dL_state_14 : decode cL_state 14 = .ok (.ireturn, 1) := by decide +kernel
theorem dL_state_15 : decode cL_state 15 = .ok (.iconst 0, 1) := by decide +kernel
theorem dL_state_16 : decode cL_state 16 = .ok (.ireturn, 1) := by decide +kernel
theorem dL_handicap_0 : decode cL_handicap 0 = .ok (.aload_n 2, 1) := by decide +kernel
theorem dL_handicap_1 : decode cL_handicap 1 = .ok (.iconst 0, 1) := by decide +kernel
theorem dL_handicap_2 : decode cL_handicap 2 = .ok (.aload_n 0, 1) := by decide +kernel
theorem dL_handicap_3 : decode cL_handicap 3 = .ok (.iload_n 1, 1) := by decide +kernel
theorem dL_handicap_4 : decode cL_handicap 4 = .ok (.invokevirtual 40, 3) := by decide +kernel
theorem dL_handicap_7 : decode cL_handicap 7 = .ok (.i2l, 1) := by decide +kernel
theorem dL_handicap_8 : decode cL_handicap 8 = .ok (.lastore, 1) := by decide +kernel
theorem dL_handicap_9 : decode cL_handicap 9 = .ok (.goto 6, 3) := by decide +kernel
theorem dL_handicap_12 : decode cL_handicap 12 = .ok (.astore_n 3, 1) := by decide +kernel
theorem dL_handicap_13 : decode cL_handicap 13 = .ok (.iconst 1, 1) := by decide +kernel
theorem dL_handicap_14 : decode cL_handicap 14 = .ok (.ireturn, 1) := by decide +kernel
theorem dL_handicap_15 : decode cL_handicap 15 = .ok (.iconst 0, 1) := by decide +kernel
theorem dL_handicap_16 : decode cL_handicap 16 = .ok (.ireturn, 1) := by decide +kernel
theorem dL_sign_0 : decode cL_sign 0 = .ok (.aload_n 3, 1) := by decide +kernel
theorem dL_sign_1 : decode cL_sign 1 = .ok (.iconst 0, 1) := by decide +kernel
theorem dL_sign_2 : decode cL_sign 2 = .ok (.aload_n 0, 1) := by decide +kernel
theorem dL_sign_3 : decode cL_sign 3 = .ok (.iload_n 1, 1) := by decide +kernel
theorem dL_sign_4 : decode cL_sign 4 = .ok (.iload_n 2, 1) := by decide +kernel
theorem dL_sign_5 : decode cL_sign 5 = .ok (.invokevirtual 43, 3) := by decide +kernel
theorem dL_sign_8 : decode cL_sign 8 = .ok (.i2l, 1) := by decide +kernel
theorem dL_sign_9 : decode cL_sign 9 = .ok (.lastore, 1) := by decide +kernel
theorem dL_sign_10 : decode cL_sign 10 = .ok (.goto 7, 3) := by decide +kernel
theorem dL_sign_13 : decode cL_sign 13 = .ok (.astore 4, 2) := by decide +kernel
theorem dL_sign_15 : decode cL_sign 15 = .ok (.iconst 1, 1) := by decide +kernel
theorem dL_sign_16 : decode cL_sign 16 = .ok (.ireturn, 1) := by decide +kernel
theorem dL_sign_17 : decode cL_sign 17 = .ok (.iconst 0, 1) := by decide +kernel
theorem dL_sign_18 : decode cL_sign 18 = .ok (.ireturn, 1) := by decide +kernel
theorem dL_clock_0 : decode cL_clock 0 = .ok (.aload_n 3, 1) := by decide +kernel
theorem dL_clock_1 : decode cL_clock 1 = .ok (.iconst 0, 1) := by decide +kernel
theorem dL_clock_2 : decode cL_clock 2 = .ok (.aload_n 0, 1) := by decide +kernel
theorem dL_clock_3 : decode cL_clock 3 = .ok (.iload_n 1, 1) := by decide +kernel
theorem dL_clock_4 : decode cL_clock 4 = .ok (.iload_n 2, 1) := by decide +kernel
theorem dL_clock_5 : decode cL_clock 5 = .ok (.invokevirtual 47, 3) := by decide +kernel
theorem dL_clock_8 : decode cL_clock 8 = .ok (.i2l, 1) := by decide +kernel
theorem dL_clock_9 : decode cL_clock 9 = .ok (.lastore, 1) := by decide +kernel
theorem dL_clock_10 : decode cL_clock 10 = .ok (.goto 7, 3) := by decide +kernel
theorem dL_clock_13 : decode cL_clock 13 = .ok (.astore 4, 2) := by decide +kernel
theorem dL_clock_15 : decode cL_clock 15 = .ok (.iconst 1, 1) := by decide +kernel
theorem dL_clock_16 : decode cL_clock 16 = .ok (.ireturn, 1) := by decide +kernel
theorem dL_clock_17 : decode cL_clock 17 = .ok (.iconst 0, 1) := by decide +kernel
theorem dL_clock_18 : decode cL_clock 18 = .ok (.ireturn, 1) := by decide +kernel
theorem dL_score_0 : decode cL_score 0 = .ok (.aload_n 2, 1) := by decide +kernel
theorem dL_score_1 : decode cL_score 1 = .ok (.iconst 0, 1) := by decide +kernel
theorem dL_score_2 : decode cL_score 2 = .ok (.aload_n 0, 1) := by decide +kernel
theorem dL_score_3 : decode cL_score 3 = .ok (.iload_n 1, 1) := by decide +kernel
theorem dL_score_4 : decode cL_score 4 = .ok (.invokevirtual 50, 3) := by decide +kernel
theorem dL_score_7 : decode cL_score 7 = .ok (.i2l, 1) := by decide +kernel
theorem dL_score_8 : decode cL_score 8 = .ok (.lastore, 1) := by decide +kernel
theorem dL_score_9 : decode cL_score 9 = .ok (.goto 6, 3) := by decide +kernel
theorem dL_score_12 : decode cL_score 12 = .ok (.astore_n 3, 1) := by decide +kernel
theorem dL_score_13 : decode cL_score 13 = .ok (.iconst 1, 1) := by decide +kernel
theorem dL_score_14 : decode cL_score 14 = .ok (.ireturn, 1) := by decide +kernel
theorem dL_score_15 : decode cL_score 15 = .ok (.iconst 0, 1) := by decide +kernel
theorem dL_score_16 : decode cL_score 16 = .ok (.ireturn, 1) := by decide +kernel
theorem dL_liberties_0 : decode cL_liberties 0 = .ok (.aload_n 3, 1) := by decide +kernel
theorem dL_liberties_1 : decode cL_liberties 1 = .ok (.iconst 0, 1) := by decide +kernel
theorem dL_liberties_2 : decode cL_liberties 2 = .ok (.aload_n 0, 1) := by decide +kernel
theorem dL_liberties_3 : decode cL_liberties 3 = .ok (.iload_n 1, 1) := by decide +kernel
theorem dL_liberties_4 : decode cL_liberties 4 = .ok (.iload_n 2, 1) := by decide +kernel
theorem dL_liberties_5 : decode cL_liberties 5 = .ok (.invokevirtual 53, 3) := by decide +kernel
theorem dL_liberties_8 : decode cL_liberties 8 = .ok (.i2l, 1) := by decide +kernel
theorem dL_liberties_9 : decode cL_liberties 9 = .ok (.lastore, 1) := by decide +kernel
theorem dL_liberties_10 : decode cL_liberties 10 = .ok (.goto 7, 3) := by decide +kernel
theorem dL_liberties_13 : decode cL_liberties 13 = .ok (.astore 4, 2) := by decide +kernel
theorem dL_liberties_15 : decode cL_liberties 15 = .ok (.iconst 1, 1) := by decide +kernel
theorem dL_liberties_16 : decode cL_liberties 16 = .ok (.ireturn, 1) := by decide +kernel
theorem dL_liberties_17 : decode cL_liberties 17 = .ok (.iconst 0, 1) := by decide +kernel
theorem dL_liberties_18 : decode cL_liberties 18 = .ok (.ireturn, 1) := by decide +kernel
theorem dL_flooded_0 : decode cL_flooded 0 = .ok (.aload_n 3, 1) := by decide +kernel
theorem dL_flooded_1 : decode cL_flooded 1 = .ok (.iconst 0, 1) := by decide +kernel
theorem dL_flooded_2 : decode cL_flooded 2 = .ok (.aload_n 0, 1) := by decide +kernel
theorem dL_flooded_3 : decode cL_flooded 3 = .ok (.iload_n 1, 1) := by decide +kernel
theorem dL_flooded_4 : decode cL_flooded 4 = .ok (.iload_n 2, 1) := by decide +kernel
theorem dL_flooded_5 : decode cL_flooded 5 = .ok (.invokevirtual 56, 3) := by decide +kernel
theorem dL_flooded_8 : decode cL_flooded 8 = .ok (.i2l, 1) := by decide +kernel
theorem dL_flooded_9 : decode cL_flooded 9 = .ok (.lastore, 1) := by decide +kernel
theorem dL_flooded_10 : decode cL_flooded 10 = .ok (.goto 7, 3) := by decide +kernel
theorem dL_flooded_13 : decode cL_flooded 13 = .ok (.astore 4, 2) := by decide +kernel
theorem dL_flooded_15 : decode cL_flooded 15 = .ok (.iconst 1, 1) := by decide +kernel
theorem dL_flooded_16 : decode cL_flooded 16 = .ok (.ireturn, 1) := by decide +kernel
theorem dL_flooded_17 : decode cL_flooded 17 = .ok (.iconst 0, 1) := by decide +kernel
theorem dL_flooded_18 : decode cL_flooded 18 = .ok (.ireturn, 1) := by decide +kernel
theorem dL_judge_0 : decode cL_judge 0 = .ok (.aload_n 2, 1) := by decide +kernel
theorem dL_judge_1 : decode cL_judge 1 = .ok (.iconst 0, 1) := by decide +kernel
theorem dL_judge_2 : decode cL_judge 2 = .ok (.aload_n 0, 1) := by decide +kernel
theorem dL_judge_3 : decode cL_judge 3 = .ok (.iload_n 1, 1) := by decide +kernel
theorem dL_judge_4 : decode cL_judge 4 = .ok (.invokevirtual 59, 3) := by decide +kernel
theorem dL_judge_7 : decode cL_judge 7 = .ok (.i2l, 1) := by decide +kernel
theorem dL_judge_8 : decode cL_judge 8 = .ok (.lastore, 1) := by decide +kernel
theorem dL_judge_9 : decode cL_judge 9 = .ok (.goto 9, 3) := by decide +kernel
theorem dL_judge_12 : decode cL_judge 12 = .ok (.astore_n 3, 1) := by decide +kernel
theorem dL_judge_13 : decode cL_judge 13 = .ok (.iconst 1, 1) := by decide +kernel
theorem dL_judge_14 : decode cL_judge 14 = .ok (.ireturn, 1) := by decide +kernel
theorem dL_judge_15 : decode cL_judge 15 = .ok (.astore_n 3, 1) := by decide +kernel
theorem dL_judge_16 : decode cL_judge 16 = .ok (.iconst 2, 1) := by decide +kernel
theorem dL_judge_17 : decode cL_judge 17 = .ok (.ireturn, 1) := by decide +kernel
theorem dL_judge_18 : decode cL_judge 18 = .ok (.iconst 0, 1) := by decide +kernel
theorem dL_judge_19 : decode cL_judge 19 = .ok (.ireturn, 1) := by decide +kernel
theorem dL_due_0 : decode cL_due 0 = .ok (.aload_n 2, 1) := by decide +kernel
theorem dL_due_1 : decode cL_due 1 = .ok (.iconst 0, 1) := by decide +kernel
theorem dL_due_2 : decode cL_due 2 = .ok (.aload_n 0, 1) := by decide +kernel
theorem dL_due_3 : decode cL_due 3 = .ok (.iload_n 1, 1) := by decide +kernel
theorem dL_due_4 : decode cL_due 4 = .ok (.invokevirtual 62, 3) := by decide +kernel
theorem dL_due_7 : decode cL_due 7 = .ok (.i2l, 1) := by decide +kernel
theorem dL_due_8 : decode cL_due 8 = .ok (.lastore, 1) := by decide +kernel
theorem dL_due_9 : decode cL_due 9 = .ok (.goto 6, 3) := by decide +kernel
theorem dL_due_12 : decode cL_due 12 = .ok (.astore_n 3, 1) := by decide +kernel
theorem dL_due_13 : decode cL_due 13 = .ok (.iconst 1, 1) := by decide +kernel
theorem dL_due_14 : decode cL_due 14 = .ok (.ireturn, 1) := by decide +kernel
theorem dL_due_15 : decode cL_due 15 = .ok (.iconst 0, 1) := by decide +kernel
theorem dL_due_16 : decode cL_due 16 = .ok (.ireturn, 1) := by decide +kernel
theorem dL_ladder_0 : decode cL_ladder 0 = .ok (.aload 4, 2) := by decide +kernel
theorem dL_ladder_2 : decode cL_ladder 2 = .ok (.iconst 0, 1) := by decide +kernel
theorem dL_ladder_3 : decode cL_ladder 3 = .ok (.aload_n 0, 1) := by decide +kernel
theorem dL_ladder_4 : decode cL_ladder 4 = .ok (.iload_n 1, 1) := by decide +kernel
theorem dL_ladder_5 : decode cL_ladder 5 = .ok (.iload_n 2, 1) := by decide +kernel
theorem dL_ladder_6 : decode cL_ladder 6 = .ok (.iload_n 3, 1) := by decide +kernel
theorem dL_ladder_7 : decode cL_ladder 7 = .ok (.invokevirtual 65, 3) := by decide +kernel
theorem dL_ladder_10 : decode cL_ladder 10 = .ok (.ifCond .eq 7, 3) := by decide +kernel
theorem dL_ladder_13 : decode cL_ladder 13 = .ok (.lconst 1, 1) := by decide +kernel
theorem dL_ladder_14 : decode cL_ladder 14 = .ok (.goto 4, 3) := by decide +kernel
theorem dL_ladder_17 : decode cL_ladder 17 = .ok (.lconst 0, 1) := by decide +kernel
theorem dL_ladder_18 : decode cL_ladder 18 = .ok (.lastore, 1) := by decide +kernel
theorem dL_ladder_19 : decode cL_ladder 19 = .ok (.goto 11, 3) := by decide +kernel
theorem dL_ladder_22 : decode cL_ladder 22 = .ok (.astore 5, 2) := by decide +kernel
theorem dL_ladder_24 : decode cL_ladder 24 = .ok (.iconst 1, 1) := by decide +kernel
theorem dL_ladder_25 : decode cL_ladder 25 = .ok (.ireturn, 1) := by decide +kernel
theorem dL_ladder_26 : decode cL_ladder 26 = .ok (.astore 5, 2) := by decide +kernel
theorem dL_ladder_28 : decode cL_ladder 28 = .ok (.iconst 2, 1) := by decide +kernel
theorem dL_ladder_29 : decode cL_ladder 29 = .ok (.ireturn, 1) := by decide +kernel
theorem dL_ladder_30 : decode cL_ladder 30 = .ok (.iconst 0, 1) := by decide +kernel
theorem dL_ladder_31 : decode cL_ladder 31 = .ok (.ireturn, 1) := by decide +kernel
theorem dL_net_0 : decode cL_net 0 = .ok (.aload 4, 2) := by decide +kernel
theorem dL_net_2 : decode cL_net 2 = .ok (.iconst 0, 1) := by decide +kernel
theorem dL_net_3 : decode cL_net 3 = .ok (.aload_n 0, 1) := by decide +kernel
theorem dL_net_4 : decode cL_net 4 = .ok (.iload_n 1, 1) := by decide +kernel
theorem dL_net_5 : decode cL_net 5 = .ok (.iload_n 2, 1) := by decide +kernel
theorem dL_net_6 : decode cL_net 6 = .ok (.iload_n 3, 1) := by decide +kernel
theorem dL_net_7 : decode cL_net 7 = .ok (.invokevirtual 69, 3) := by decide +kernel
theorem dL_net_10 : decode cL_net 10 = .ok (.ifCond .eq 7, 3) := by decide +kernel
theorem dL_net_13 : decode cL_net 13 = .ok (.lconst 1, 1) := by decide +kernel
theorem dL_net_14 : decode cL_net 14 = .ok (.goto 4, 3) := by decide +kernel
theorem dL_net_17 : decode cL_net 17 = .ok (.lconst 0, 1) := by decide +kernel
theorem dL_net_18 : decode cL_net 18 = .ok (.lastore, 1) := by decide +kernel
theorem dL_net_19 : decode cL_net 19 = .ok (.goto 11, 3) := by decide +kernel
theorem dL_net_22 : decode cL_net 22 = .ok (.astore 5, 2) := by decide +kernel
theorem dL_net_24 : decode cL_net 24 = .ok (.iconst 1, 1) := by decide +kernel
theorem dL_net_25 : decode cL_net 25 = .ok (.ireturn, 1) := by decide +kernel
theorem dL_net_26 : decode cL_net 26 = .ok (.astore 5, 2) := by decide +kernel
theorem dL_net_28 : decode cL_net 28 = .ok (.iconst 2, 1) := by decide +kernel
theorem dL_net_29 : decode cL_net 29 = .ok (.ireturn, 1) := by decide +kernel
theorem dL_net_30 : decode cL_net 30 = .ok (.iconst 0, 1) := by decide +kernel
theorem dL_net_31 : decode cL_net 31 = .ok (.ireturn, 1) := by decide +kernel
theorem dL_lesson_0 : decode cL_lesson 0 = .ok (.aload_n 3, 1) := by decide +kernel
theorem dL_lesson_1 : decode cL_lesson 1 = .ok (.iconst 0, 1) := by decide +kernel
theorem dL_lesson_2 : decode cL_lesson 2 = .ok (.aload_n 0, 1) := by decide +kernel
theorem dL_lesson_3 : decode cL_lesson 3 = .ok (.iload_n 1, 1) := by decide +kernel
theorem dL_lesson_4 : decode cL_lesson 4 = .ok (.iload_n 2, 1) := by decide +kernel
theorem dL_lesson_5 : decode cL_lesson 5 = .ok (.invokevirtual 72, 3) := by decide +kernel
theorem dL_lesson_8 : decode cL_lesson 8 = .ok (.i2l, 1) := by decide +kernel
theorem dL_lesson_9 : decode cL_lesson 9 = .ok (.lastore, 1) := by decide +kernel
theorem dL_lesson_10 : decode cL_lesson 10 = .ok (.goto 15, 3) := by decide +kernel
theorem dL_lesson_13 : decode cL_lesson 13 = .ok (.astore 4, 2) := by decide +kernel
theorem dL_lesson_15 : decode cL_lesson 15 = .ok (.iconst 1, 1) := by decide +kernel
theorem dL_lesson_16 : decode cL_lesson 16 = .ok (.ireturn, 1) := by decide +kernel
theorem dL_lesson_17 : decode cL_lesson 17 = .ok (.astore 4, 2) := by decide +kernel
theorem dL_lesson_19 : decode cL_lesson 19 = .ok (.iconst 2, 1) := by decide +kernel
theorem dL_lesson_20 : decode cL_lesson 20 = .ok (.ireturn, 1) := by decide +kernel
theorem dL_lesson_21 : decode cL_lesson 21 = .ok (.astore 4, 2) := by decide +kernel
theorem dL_lesson_23 : decode cL_lesson 23 = .ok (.iconst 3, 1) := by decide +kernel
theorem dL_lesson_24 : decode cL_lesson 24 = .ok (.ireturn, 1) := by decide +kernel
theorem dL_lesson_25 : decode cL_lesson 25 = .ok (.iconst 0, 1) := by decide +kernel
theorem dL_lesson_26 : decode cL_lesson 26 = .ok (.ireturn, 1) := by decide +kernel
theorem dL_branch_0 : decode cL_branch 0 = .ok (.aload_n 3, 1) := by decide +kernel
theorem dL_branch_1 : decode cL_branch 1 = .ok (.iconst 0, 1) := by decide +kernel
theorem dL_branch_2 : decode cL_branch 2 = .ok (.aload_n 0, 1) := by decide +kernel
theorem dL_branch_3 : decode cL_branch 3 = .ok (.iload_n 1, 1) := by decide +kernel
theorem dL_branch_4 : decode cL_branch 4 = .ok (.iload_n 2, 1) := by decide +kernel
theorem dL_branch_5 : decode cL_branch 5 = .ok (.invokevirtual 75, 3) := by decide +kernel
theorem dL_branch_8 : decode cL_branch 8 = .ok (.i2l, 1) := by decide +kernel
theorem dL_branch_9 : decode cL_branch 9 = .ok (.lastore, 1) := by decide +kernel
theorem dL_branch_10 : decode cL_branch 10 = .ok (.goto 11, 3) := by decide +kernel
theorem dL_branch_13 : decode cL_branch 13 = .ok (.astore 4, 2) := by decide +kernel
theorem dL_branch_15 : decode cL_branch 15 = .ok (.iconst 1, 1) := by decide +kernel
theorem dL_branch_16 : decode cL_branch 16 = .ok (.ireturn, 1) := by decide +kernel
theorem dL_branch_17 : decode cL_branch 17 = .ok (.astore 4, 2) := by decide +kernel
theorem dL_branch_19 : decode cL_branch 19 = .ok (.iconst 2, 1) := by decide +kernel
theorem dL_branch_20 : decode cL_branch 20 = .ok (.ireturn, 1) := by decide +kernel
theorem dL_branch_21 : decode cL_branch 21 = .ok (.iconst 0, 1) := by decide +kernel
theorem dL_branch_22 : decode cL_branch 22 = .ok (.ireturn, 1) := by decide +kernel
theorem dL_mark_0 : decode cL_mark 0 = .ok (.aload 4, 2) := by decide +kernel
theorem dL_mark_2 : decode cL_mark 2 = .ok (.iconst 0, 1) := by decide +kernel
theorem dL_mark_3 : decode cL_mark 3 = .ok (.aload_n 0, 1) := by decide +kernel
theorem dL_mark_4 : decode cL_mark 4 = .ok (.iload_n 1, 1) := by decide +kernel
theorem dL_mark_5 : decode cL_mark 5 = .ok (.iload_n 2, 1) := by decide +kernel
theorem dL_mark_6 : decode cL_mark 6 = .ok (.iload_n 3, 1) := by decide +kernel
theorem dL_mark_7 : decode cL_mark 7 = .ok (.invokevirtual 78, 3) := by decide +kernel
theorem dL_mark_10 : decode cL_mark 10 = .ok (.i2l, 1) := by decide +kernel
theorem dL_mark_11 : decode cL_mark 11 = .ok (.lastore, 1) := by decide +kernel
theorem dL_mark_12 : decode cL_mark 12 = .ok (.goto 11, 3) := by decide +kernel
theorem dL_mark_15 : decode cL_mark 15 = .ok (.astore 5, 2) := by decide +kernel
theorem dL_mark_17 : decode cL_mark 17 = .ok (.iconst 1, 1) := by decide +kernel
theorem dL_mark_18 : decode cL_mark 18 = .ok (.ireturn, 1) := by decide +kernel
theorem dL_mark_19 : decode cL_mark 19 = .ok (.astore 5, 2) := by decide +kernel
theorem dL_mark_21 : decode cL_mark 21 = .ok (.iconst 2, 1) := by decide +kernel
theorem dL_mark_22 : decode cL_mark 22 = .ok (.ireturn, 1) := by decide +kernel
theorem dL_mark_23 : decode cL_mark 23 = .ok (.iconst 0, 1) := by decide +kernel
theorem dL_mark_24 : decode cL_mark 24 = .ok (.ireturn, 1) := by decide +kernel
theorem dL_node_0 : decode cL_node 0 = .ok (.aload_n 2, 1) := by decide +kernel
theorem dL_node_1 : decode cL_node 1 = .ok (.iconst 0, 1) := by decide +kernel
theorem dL_node_2 : decode cL_node 2 = .ok (.aload_n 0, 1) := by decide +kernel
theorem dL_node_3 : decode cL_node 3 = .ok (.iload_n 1, 1) := by decide +kernel
theorem dL_node_4 : decode cL_node 4 = .ok (.invokevirtual 81, 3) := by decide +kernel
theorem dL_node_7 : decode cL_node 7 = .ok (.i2l, 1) := by decide +kernel
theorem dL_node_8 : decode cL_node 8 = .ok (.lastore, 1) := by decide +kernel
theorem dL_node_9 : decode cL_node 9 = .ok (.goto 6, 3) := by decide +kernel
theorem dL_node_12 : decode cL_node 12 = .ok (.astore_n 3, 1) := by decide +kernel
theorem dL_node_13 : decode cL_node 13 = .ok (.iconst 1, 1) := by decide +kernel
theorem dL_node_14 : decode cL_node 14 = .ok (.ireturn, 1) := by decide +kernel
theorem dL_node_15 : decode cL_node 15 = .ok (.iconst 0, 1) := by decide +kernel
theorem dL_node_16 : decode cL_node 16 = .ok (.ireturn, 1) := by decide +kernel
theorem dL_merge_0 : decode cL_merge 0 = .ok (.aload_n 3, 1) := by decide +kernel
theorem dL_merge_1 : decode cL_merge 1 = .ok (.iconst 0, 1) := by decide +kernel
theorem dL_merge_2 : decode cL_merge 2 = .ok (.aload_n 0, 1) := by decide +kernel
theorem dL_merge_3 : decode cL_merge 3 = .ok (.iload_n 1, 1) := by decide +kernel
theorem dL_merge_4 : decode cL_merge 4 = .ok (.iload_n 2, 1) := by decide +kernel
theorem dL_merge_5 : decode cL_merge 5 = .ok (.invokevirtual 84, 3) := by decide +kernel
theorem dL_merge_8 : decode cL_merge 8 = .ok (.i2l, 1) := by decide +kernel
theorem dL_merge_9 : decode cL_merge 9 = .ok (.lastore, 1) := by decide +kernel
theorem dL_merge_10 : decode cL_merge 10 = .ok (.goto 15, 3) := by decide +kernel
theorem dL_merge_13 : decode cL_merge 13 = .ok (.astore 4, 2) := by decide +kernel
theorem dL_merge_15 : decode cL_merge 15 = .ok (.iconst 1, 1) := by decide +kernel
theorem dL_merge_16 : decode cL_merge 16 = .ok (.ireturn, 1) := by decide +kernel
theorem dL_merge_17 : decode cL_merge 17 = .ok (.astore 4, 2) := by decide +kernel
theorem dL_merge_19 : decode cL_merge 19 = .ok (.iconst 2, 1) := by decide +kernel
theorem dL_merge_20 : decode cL_merge 20 = .ok (.ireturn, 1) := by decide +kernel
theorem dL_merge_21 : decode cL_merge 21 = .ok (.astore 4, 2) := by decide +kernel
theorem dL_merge_23 : decode cL_merge 23 = .ok (.iconst 3, 1) := by decide +kernel
theorem dL_merge_24 : decode cL_merge 24 = .ok (.ireturn, 1) := by decide +kernel
theorem dL_merge_25 : decode cL_merge 25 = .ok (.iconst 0, 1) := by decide +kernel
theorem dL_merge_26 : decode cL_merge 26 = .ok (.ireturn, 1) := by decide +kernel
theorem dL_law_0 : decode cL_law 0 = .ok (.new 8, 3) := by decide +kernel
theorem dL_law_3 : decode cL_law 3 = .ok (.dup, 1) := by decide +kernel
theorem dL_law_4 : decode cL_law 4 = .ok (.invokespecial 87, 3) := by decide +kernel
theorem dL_law_7 : decode cL_law 7 = .ok (.astore_n 1, 1) := by decide +kernel
theorem dL_law_8 : decode cL_law 8 = .ok (.new 88, 3) := by decide +kernel
theorem dL_law_11 : decode cL_law 11 = .ok (.dup, 1) := by decide +kernel
theorem dL_law_12 : decode cL_law 12 = .ok (.invokespecial 90, 3) := by decide +kernel
theorem dL_law_15 : decode cL_law 15 = .ok (.astore_n 2, 1) := by decide +kernel
theorem dL_law_16 : decode cL_law 16 = .ok (.iconst 1, 1) := by decide +kernel
theorem dL_law_17 : decode cL_law 17 = .ok (.newarray .long, 2) := by decide +kernel
theorem dL_law_19 : decode cL_law 19 = .ok (.astore_n 3, 1) := by decide +kernel
theorem dL_law_20 : decode cL_law 20 = .ok (.iconst 0, 1) := by decide +kernel
theorem dL_law_21 : decode cL_law 21 = .ok (.istore 4, 2) := by decide +kernel
theorem dL_law_23 : decode cL_law 23 = .ok (.iload 4, 2) := by decide +kernel
theorem dL_law_25 : decode cL_law 25 = .ok (.aload_n 0, 1) := by decide +kernel
theorem dL_law_26 : decode cL_law 26 = .ok (.arraylength, 1) := by decide +kernel
theorem dL_law_27 : decode cL_law 27 = .ok (.bipush 6, 2) := by decide +kernel
theorem dL_law_29 : decode cL_law 29 = .ok (.isub, 1) := by decide +kernel
theorem dL_law_30 : decode cL_law 30 = .ok (.if_icmp .gt 1623, 3) := by decide +kernel
theorem dL_law_33 : decode cL_law 33 = .ok (.aload_n 0, 1) := by decide +kernel
theorem dL_law_34 : decode cL_law 34 = .ok (.iload 4, 2) := by decide +kernel
theorem dL_law_36 : decode cL_law 36 = .ok (.iaload, 1) := by decide +kernel
theorem dL_law_37 : decode cL_law 37 = .ok (.bipush 31, 2) := by decide +kernel
theorem dL_law_39 : decode cL_law 39 = .ok (.iand, 1) := by decide +kernel
theorem dL_law_40 : decode cL_law 40 = .ok (.tableswitch 1607 0 22 #[108, 164, 220, 324, 404, 472, 528, 584, 640, 708, 776, 832, 900, 968, 1024, 1080, 1093, 1180, 1267, 1335, 1403, 1483, 1539], 108) := by decide +kernel
theorem dL_law_148 : decode cL_law 148 = .ok (.aload_n 1, 1) := by decide +kernel
theorem dL_law_149 : decode cL_law 149 = .ok (.aload_n 0, 1) := by decide +kernel
theorem dL_law_150 : decode cL_law 150 = .ok (.iload 4, 2) := by decide +kernel
theorem dL_law_152 : decode cL_law 152 = .ok (.iconst 1, 1) := by decide +kernel
theorem dL_law_153 : decode cL_law 153 = .ok (.iadd, 1) := by decide +kernel
theorem dL_law_154 : decode cL_law 154 = .ok (.iaload, 1) := by decide +kernel
theorem dL_law_155 : decode cL_law 155 = .ok (.aload_n 3, 1) := by decide +kernel
theorem dL_law_156 : decode cL_law 156 = .ok (.invokestatic 91, 3) := by decide +kernel
theorem dL_law_159 : decode cL_law 159 = .ok (.istore 5, 2) := by decide +kernel
theorem dL_law_161 : decode cL_law 161 = .ok (.aload_n 2, 1) := by decide +kernel
theorem dL_law_162 : decode cL_law 162 = .ok (.aload_n 0, 1) := by decide +kernel
theorem dL_law_163 : decode cL_law 163 = .ok (.iload 4, 2) := by decide +kernel
theorem dL_law_165 : decode cL_law 165 = .ok (.iconst 1, 1) := by decide +kernel
theorem dL_law_166 : decode cL_law 166 = .ok (.iadd, 1) := by decide +kernel
theorem dL_law_167 : decode cL_law 167 = .ok (.iaload, 1) := by decide +kernel
theorem dL_law_168 : decode cL_law 168 = .ok (.invokevirtual 96, 3) := by decide +kernel
theorem dL_law_171 : decode cL_law 171 = .ok (.istore 6, 2) := by decide +kernel
theorem dL_law_173 : decode cL_law 173 = .ok (.aload_n 2, 1) := by decide +kernel
theorem dL_law_174 : decode cL_law 174 = .ok (.invokevirtual 97, 3) := by decide +kernel
theorem dL_law_177 : decode cL_law 177 = .ok (.iload 5, 2) := by decide +kernel
theorem dL_law_179 : decode cL_law 179 = .ok (.if_icmp .eq 5, 3) := by decide +kernel
theorem dL_law_182 : decode cL_law 182 = .ok (.iconst 0, 1) := by decide +kernel
theorem dL_law_183 : decode cL_law 183 = .ok (.ireturn, 1) := by decide +kernel
theorem dL_law_184 : decode cL_law 184 = .ok (.iload 5, 2) := by decide +kernel
theorem dL_law_186 : decode cL_law 186 = .ok (.ifCond .ne 15, 3) := by decide +kernel
theorem dL_law_189 : decode cL_law 189 = .ok (.aload_n 3, 1) := by decide +kernel
theorem dL_law_190 : decode cL_law 190 = .ok (.iconst 0, 1) := by decide +kernel
theorem dL_law_191 : decode cL_law 191 = .ok (.laload, 1) := by decide +kernel
theorem dL_law_192 : decode cL_law 192 = .ok (.iload 6, 2) := by decide +kernel
theorem dL_law_194 : decode cL_law 194 = .ok (.i2l, 1) := by decide +kernel
theorem dL_law_195 : decode cL_law 195 = .ok (.lcmp, 1) := by decide +kernel
theorem dL_law_196 : decode cL_law 196 = .ok (.ifCond .eq 5, 3) := by decide +kernel
theorem dL_law_199 : decode cL_law 199 = .ok (.iconst 0, 1) := by decide +kernel
theorem dL_law_200 : decode cL_law 200 = .ok (.ireturn, 1) := by decide +kernel
theorem dL_law_201 : decode cL_law 201 = .ok (.goto 1446, 3) := by decide +kernel
theorem dL_law_204 : decode cL_law 204 = .ok (.aload_n 1, 1) := by decide +kernel
theorem dL_law_205 : decode cL_law 205 = .ok (.aload_n 0, 1) := by decide +kernel
theorem dL_law_206 : decode cL_law 206 = .ok (.iload 4, 2) := by decide +kernel
theorem dL_law_208 : decode cL_law 208 = .ok (.iconst 1, 1) := by decide +kernel
theorem dL_law_209 : decode cL_law 209 = .ok (.iadd, 1) := by decide +kernel
theorem dL_law_210 : decode cL_law 210 = .ok (.iaload, 1) := by decide +kernel
theorem dL_law_211 : decode cL_law 211 = .ok (.aload_n 3, 1) := by decide +kernel
theorem dL_law_212 : decode cL_law 212 = .ok (.invokestatic 101, 3) := by decide +kernel
theorem dL_law_215 : decode cL_law 215 = .ok (.istore 5, 2) := by decide +kernel
theorem dL_law_217 : decode cL_law 217 = .ok (.aload_n 2, 1) := by decide +kernel
theorem dL_law_218 : decode cL_law 218 = .ok (.aload_n 0, 1) := by decide +kernel
theorem dL_law_219 : decode cL_law 219 = .ok (.iload 4, 2) := by decide +kernel
theorem dL_law_221 : decode cL_law 221 = .ok (.iconst 1, 1) := by decide +kernel
theorem dL_law_222 : decode cL_law 222 = .ok (.iadd, 1) := by decide +kernel
theorem dL_law_223 : decode cL_law 223 = .ok (.iaload, 1) := by decide +kernel
theorem dL_law_224 : decode cL_law 224 = .ok (.invokevirtual 103, 3) := by decide +kernel
theorem dL_law_227 : decode cL_law 227 = .ok (.istore 6, 2) := by decide +kernel
theorem dL_law_229 : decode cL_law 229 = .ok (.aload_n 2, 1) := by decide +kernel
theorem dL_law_230 : decode cL_law 230 = .ok (.invokevirtual 97, 3) := by decide +kernel
theorem dL_law_233 : decode cL_law 233 = .ok (.iload 5, 2) := by decide +kernel
theorem dL_law_235 : decode cL_law 235 = .ok (.if_icmp .eq 5, 3) := by decide +kernel
theorem dL_law_238 : decode cL_law 238 = .ok (.iconst 0, 1) := by decide +kernel
theorem dL_law_239 : decode cL_law 239 = .ok (.ireturn, 1) := by decide +kernel
theorem dL_law_240 : decode cL_law 240 = .ok (.iload 5, 2) := by decide +kernel
theorem dL_law_242 : decode cL_law 242 = .ok (.ifCond .ne 15, 3) := by decide +kernel
theorem dL_law_245 : decode cL_law 245 = .ok (.aload_n 3, 1) := by decide +kernel
theorem dL_law_246 : decode cL_law 246 = .ok (.iconst 0, 1) := by decide +kernel
theorem dL_law_247 : decode cL_law 247 = .ok (.laload, 1) := by decide +kernel
theorem dL_law_248 : decode cL_law 248 = .ok (.iload 6, 2) := by decide +kernel
theorem dL_law_250 : decode cL_law 250 = .ok (.i2l, 1) := by decide +kernel
theorem dL_law_251 : decode cL_law 251 = .ok (.lcmp, 1) := by decide +kernel
theorem dL_law_252 : decode cL_law 252 = .ok (.ifCond .eq 5, 3) := by decide +kernel
theorem dL_law_255 : decode cL_law 255 = .ok (.iconst 0, 1) := by decide +kernel
theorem dL_law_256 : decode cL_law 256 = .ok (.ireturn, 1) := by decide +kernel
theorem dL_law_257 : decode cL_law 257 = .ok (.goto 1390, 3) := by decide +kernel
theorem dL_law_260 : decode cL_law 260 = .ok (.aload_n 1, 1) := by decide +kernel
theorem dL_law_261 : decode cL_law 261 = .ok (.aload_n 0, 1) := by decide +kernel
theorem dL_law_262 : decode cL_law 262 = .ok (.iload 4, 2) := by decide +kernel
theorem dL_law_264 : decode cL_law 264 = .ok (.iconst 1, 1) := by decide +kernel
theorem dL_law_265 : decode cL_law 265 = .ok (.iadd, 1) := by decide +kernel
theorem dL_law_266 : decode cL_law 266 = .ok (.iaload, 1) := by decide +kernel
theorem dL_law_267 : decode cL_law 267 = .ok (.aload_n 0, 1) := by decide +kernel
theorem dL_law_268 : decode cL_law 268 = .ok (.iload 4, 2) := by decide +kernel
theorem dL_law_270 : decode cL_law 270 = .ok (.iconst 2, 1) := by decide +kernel
theorem dL_law_271 : decode cL_law 271 = .ok (.iadd, 1) := by decide +kernel
theorem dL_law_272 : decode cL_law 272 = .ok (.iaload, 1) := by decide +kernel
theorem dL_law_273 : decode cL_law 273 = .ok (.aload_n 0, 1) := by decide +kernel
theorem dL_law_274 : decode cL_law 274 = .ok (.iload 4, 2) := by decide +kernel
theorem dL_law_276 : decode cL_law 276 = .ok (.iconst 3, 1) := by decide +kernel
theorem dL_law_277 : decode cL_law 277 = .ok (.iadd, 1) := by decide +kernel
theorem dL_law_278 : decode cL_law 278 = .ok (.iaload, 1) := by decide +kernel
theorem dL_law_279 : decode cL_law 279 = .ok (.aload_n 0, 1) := by decide +kernel
theorem dL_law_280 : decode cL_law 280 = .ok (.iload 4, 2) := by decide +kernel
theorem dL_law_282 : decode cL_law 282 = .ok (.iconst 4, 1) := by decide +kernel
theorem dL_law_283 : decode cL_law 283 = .ok (.iadd, 1) := by decide +kernel
theorem dL_law_284 : decode cL_law 284 = .ok (.iaload, 1) := by decide +kernel
theorem dL_law_285 : decode cL_law 285 = .ok (.aload_n 0, 1) := by decide +kernel
theorem dL_law_286 : decode cL_law 286 = .ok (.iload 4, 2) := by decide +kernel
theorem dL_law_288 : decode cL_law 288 = .ok (.iconst 5, 1) := by decide +kernel
theorem dL_law_289 : decode cL_law 289 = .ok (.iadd, 1) := by decide +kernel
theorem dL_law_290 : decode cL_law 290 = .ok (.iaload, 1) := by decide +kernel
theorem dL_law_291 : decode cL_law 291 = .ok (.aload_n 3, 1) := by decide +kernel
theorem dL_law_292 : decode cL_law 292 = .ok (.invokestatic 104, 3) := by decide +kernel
theorem dL_law_295 : decode cL_law 295 = .ok (.istore 5, 2) := by decide +kernel
theorem dL_law_297 : decode cL_law 297 = .ok (.aload_n 2, 1) := by decide +kernel
theorem dL_law_298 : decode cL_law 298 = .ok (.aload_n 0, 1) := by decide +kernel
theorem dL_law_299 : decode cL_law 299 = .ok (.iload 4, 2) := by decide +kernel
theorem dL_law_301 : decode cL_law 301 = .ok (.iconst 1, 1) := by decide +kernel
theorem dL_law_302 : decode cL_law 302 = .ok (.iadd, 1) := by decide +kernel
theorem dL_law_303 : decode cL_law 303 = .ok (.iaload, 1) := by decide +kernel
theorem dL_law_304 : decode cL_law 304 = .ok (.aload_n 0, 1) := by decide +kernel
theorem dL_law_305 : decode cL_law 305 = .ok (.iload 4, 2) := by decide +kernel
theorem dL_law_307 : decode cL_law 307 = .ok (.iconst 2, 1) := by decide +kernel
theorem dL_law_308 : decode cL_law 308 = .ok (.iadd, 1) := by decide +kernel
theorem dL_law_309 : decode cL_law 309 = .ok (.iaload, 1) := by decide +kernel
theorem dL_law_310 : decode cL_law 310 = .ok (.aload_n 0, 1) := by decide +kernel
theorem dL_law_311 : decode cL_law 311 = .ok (.iload 4, 2) := by decide +kernel
theorem dL_law_313 : decode cL_law 313 = .ok (.iconst 3, 1) := by decide +kernel
theorem dL_law_314 : decode cL_law 314 = .ok (.iadd, 1) := by decide +kernel
theorem dL_law_315 : decode cL_law 315 = .ok (.iaload, 1) := by decide +kernel
theorem dL_law_316 : decode cL_law 316 = .ok (.aload_n 0, 1) := by decide +kernel
theorem dL_law_317 : decode cL_law 317 = .ok (.iload 4, 2) := by decide +kernel
theorem dL_law_319 : decode cL_law 319 = .ok (.iconst 4, 1) := by decide +kernel
theorem dL_law_320 : decode cL_law 320 = .ok (.iadd, 1) := by decide +kernel
theorem dL_law_321 : decode cL_law 321 = .ok (.iaload, 1) := by decide +kernel
theorem dL_law_322 : decode cL_law 322 = .ok (.aload_n 0, 1) := by decide +kernel
theorem dL_law_323 : decode cL_law 323 = .ok (.iload 4, 2) := by decide +kernel
theorem dL_law_325 : decode cL_law 325 = .ok (.iconst 5, 1) := by decide +kernel
theorem dL_law_326 : decode cL_law 326 = .ok (.iadd, 1) := by decide +kernel
theorem dL_law_327 : decode cL_law 327 = .ok (.iaload, 1) := by decide +kernel
theorem dL_law_328 : decode cL_law 328 = .ok (.invokevirtual 107, 3) := by decide +kernel
theorem dL_law_331 : decode cL_law 331 = .ok (.istore 6, 2) := by decide +kernel
theorem dL_law_333 : decode cL_law 333 = .ok (.aload_n 2, 1) := by decide +kernel
theorem dL_law_334 : decode cL_law 334 = .ok (.invokevirtual 97, 3) := by decide +kernel
theorem dL_law_337 : decode cL_law 337 = .ok (.iload 5, 2) := by decide +kernel
theorem dL_law_339 : decode cL_law 339 = .ok (.if_icmp .eq 5, 3) := by decide +kernel
theorem dL_law_342 : decode cL_law 342 = .ok (.iconst 0, 1) := by decide +kernel
theorem dL_law_343 : decode cL_law 343 = .ok (.ireturn, 1) := by decide +kernel
theorem dL_law_344 : decode cL_law 344 = .ok (.iload 5, 2) := by decide +kernel
theorem dL_law_346 : decode cL_law 346 = .ok (.ifCond .ne 15, 3) := by decide +kernel
theorem dL_law_349 : decode cL_law 349 = .ok (.aload_n 3, 1) := by decide +kernel
theorem dL_law_350 : decode cL_law 350 = .ok (.iconst 0, 1) := by decide +kernel
theorem dL_law_351 : decode cL_law 351 = .ok (.laload, 1) := by decide +kernel
theorem dL_law_352 : decode cL_law 352 = .ok (.iload 6, 2) := by decide +kernel
theorem dL_law_354 : decode cL_law 354 = .ok (.i2l, 1) := by decide +kernel
theorem dL_law_355 : decode cL_law 355 = .ok (.lcmp, 1) := by decide +kernel
theorem dL_law_356 : decode cL_law 356 = .ok (.ifCond .eq 5, 3) := by decide +kernel
theorem dL_law_359 : decode cL_law 359 = .ok (.iconst 0, 1) := by decide +kernel
theorem dL_law_360 : decode cL_law 360 = .ok (.ireturn, 1) := by decide +kernel
theorem dL_law_361 : decode cL_law 361 = .ok (.goto 1286, 3) := by decide +kernel
theorem dL_law_364 : decode cL_law 364 = .ok (.aload_n 1, 1) := by decide +kernel
theorem dL_law_365 : decode cL_law 365 = .ok (.aload_n 0, 1) := by decide +kernel
theorem dL_law_366 : decode cL_law 366 = .ok (.iload 4, 2) := by decide +kernel
theorem dL_law_368 : decode cL_law 368 = .ok (.iconst 1, 1) := by decide +kernel
theorem dL_law_369 : decode cL_law 369 = .ok (.iadd, 1) := by decide +kernel
theorem dL_law_370 : decode cL_law 370 = .ok (.iaload, 1) := by decide +kernel
theorem dL_law_371 : decode cL_law 371 = .ok (.aload_n 0, 1) := by decide +kernel
theorem dL_law_372 : decode cL_law 372 = .ok (.iload 4, 2) := by decide +kernel
theorem dL_law_374 : decode cL_law 374 = .ok (.iconst 2, 1) := by decide +kernel
theorem dL_law_375 : decode cL_law 375 = .ok (.iadd, 1) := by decide +kernel
theorem dL_law_376 : decode cL_law 376 = .ok (.iaload, 1) := by decide +kernel
theorem dL_law_377 : decode cL_law 377 = .ok (.aload_n 0, 1) := by decide +kernel
theorem dL_law_378 : decode cL_law 378 = .ok (.iload 4, 2) := by decide +kernel
theorem dL_law_380 : decode cL_law 380 = .ok (.iconst 3, 1) := by decide +kernel
theorem dL_law_381 : decode cL_law 381 = .ok (.iadd, 1) := by decide +kernel
theorem dL_law_382 : decode cL_law 382 = .ok (.iaload, 1) := by decide +kernel
theorem dL_law_383 : decode cL_law 383 = .ok (.aload_n 3, 1) := by decide +kernel
theorem dL_law_384 : decode cL_law 384 = .ok (.invokestatic 108, 3) := by decide +kernel
theorem dL_law_387 : decode cL_law 387 = .ok (.istore 5, 2) := by decide +kernel
theorem dL_law_389 : decode cL_law 389 = .ok (.aload_n 2, 1) := by decide +kernel
theorem dL_law_390 : decode cL_law 390 = .ok (.aload_n 0, 1) := by decide +kernel
theorem dL_law_391 : decode cL_law 391 = .ok (.iload 4, 2) := by decide +kernel
theorem dL_law_393 : decode cL_law 393 = .ok (.iconst 1, 1) := by decide +kernel
theorem dL_law_394 : decode cL_law 394 = .ok (.iadd, 1) := by decide +kernel
theorem dL_law_395 : decode cL_law 395 = .ok (.iaload, 1) := by decide +kernel
theorem dL_law_396 : decode cL_law 396 = .ok (.aload_n 0, 1) := by decide +kernel
theorem dL_law_397 : decode cL_law 397 = .ok (.iload 4, 2) := by decide +kernel
theorem dL_law_399 : decode cL_law 399 = .ok (.iconst 2, 1) := by decide +kernel
theorem dL_law_400 : decode cL_law 400 = .ok (.iadd, 1) := by decide +kernel
theorem dL_law_401 : decode cL_law 401 = .ok (.iaload, 1) := by decide +kernel
theorem dL_law_402 : decode cL_law 402 = .ok (.aload_n 0, 1) := by decide +kernel
theorem dL_law_403 : decode cL_law 403 = .ok (.iload 4, 2) := by decide +kernel
theorem dL_law_405 : decode cL_law 405 = .ok (.iconst 3, 1) := by decide +kernel
theorem dL_law_406 : decode cL_law 406 = .ok (.iadd, 1) := by decide +kernel
theorem dL_law_407 : decode cL_law 407 = .ok (.iaload, 1) := by decide +kernel
theorem dL_law_408 : decode cL_law 408 = .ok (.invokevirtual 111, 3) := by decide +kernel
theorem dL_law_411 : decode cL_law 411 = .ok (.istore 6, 2) := by decide +kernel
theorem dL_law_413 : decode cL_law 413 = .ok (.aload_n 2, 1) := by decide +kernel
theorem dL_law_414 : decode cL_law 414 = .ok (.invokevirtual 97, 3) := by decide +kernel
theorem dL_law_417 : decode cL_law 417 = .ok (.iload 5, 2) := by decide +kernel
theorem dL_law_419 : decode cL_law 419 = .ok (.if_icmp .eq 5, 3) := by decide +kernel
theorem dL_law_422 : decode cL_law 422 = .ok (.iconst 0, 1) := by decide +kernel
theorem dL_law_423 : decode cL_law 423 = .ok (.ireturn, 1) := by decide +kernel
theorem dL_law_424 : decode cL_law 424 = .ok (.iload 5, 2) := by decide +kernel
theorem dL_law_426 : decode cL_law 426 = .ok (.ifCond .ne 15, 3) := by decide +kernel
theorem dL_law_429 : decode cL_law 429 = .ok (.aload_n 3, 1) := by decide +kernel
theorem dL_law_430 : decode cL_law 430 = .ok (.iconst 0, 1) := by decide +kernel
theorem dL_law_431 : decode cL_law 431 = .ok (.laload, 1) := by decide +kernel
theorem dL_law_432 : decode cL_law 432 = .ok (.iload 6, 2) := by decide +kernel
theorem dL_law_434 : decode cL_law 434 = .ok (.i2l, 1) := by decide +kernel
theorem dL_law_435 : decode cL_law 435 = .ok (.lcmp, 1) := by decide +kernel
theorem dL_law_436 : decode cL_law 436 = .ok (.ifCond .eq 5, 3) := by decide +kernel
theorem dL_law_439 : decode cL_law 439 = .ok (.iconst 0, 1) := by decide +kernel
theorem dL_law_440 : decode cL_law 440 = .ok (.ireturn, 1) := by decide +kernel
theorem dL_law_441 : decode cL_law 441 = .ok (.goto 1206, 3) := by decide +kernel
theorem dL_law_444 : decode cL_law 444 = .ok (.aload_n 1, 1) := by decide +kernel
theorem dL_law_445 : decode cL_law 445 = .ok (.aload_n 0, 1) := by decide +kernel
theorem dL_law_446 : decode cL_law 446 = .ok (.iload 4, 2) := by decide +kernel
theorem dL_law_448 : decode cL_law 448 = .ok (.iconst 1, 1) := by decide +kernel
theorem dL_law_449 : decode cL_law 449 = .ok (.iadd, 1) := by decide +kernel
theorem dL_law_450 : decode cL_law 450 = .ok (.iaload, 1) := by decide +kernel
theorem dL_law_451 : decode cL_law 451 = .ok (.aload_n 0, 1) := by decide +kernel
theorem dL_law_452 : decode cL_law 452 = .ok (.iload 4, 2) := by decide +kernel
theorem dL_law_454 : decode cL_law 454 = .ok (.iconst 2, 1) := by decide +kernel
theorem dL_law_455 : decode cL_law 455 = .ok (.iadd, 1) := by decide +kernel
theorem dL_law_456 : decode cL_law 456 = .ok (.iaload, 1) := by decide +kernel
theorem dL_law_457 : decode cL_law 457 = .ok (.aload_n 3, 1) := by decide +kernel
theorem dL_law_458 : decode cL_law 458 = .ok (.invokestatic 112, 3) := by decide +kernel
theorem dL_law_461 : decode cL_law 461 = .ok (.istore 5, 2) := by decide +kernel
theorem dL_law_463 : decode cL_law 463 = .ok (.aload_n 2, 1) := by decide +kernel
theorem dL_law_464 : decode cL_law 464 = .ok (.aload_n 0, 1) := by decide +kernel
theorem dL_law_465 : decode cL_law 465 = .ok (.iload 4, 2) := by decide +kernel
theorem dL_law_467 : decode cL_law 467 = .ok (.iconst 1, 1) := by decide +kernel
theorem dL_law_468 : decode cL_law 468 = .ok (.iadd, 1) := by decide +kernel
theorem dL_law_469 : decode cL_law 469 = .ok (.iaload, 1) := by decide +kernel
theorem dL_law_470 : decode cL_law 470 = .ok (.aload_n 0, 1) := by decide +kernel
theorem dL_law_471 : decode cL_law 471 = .ok (.iload 4, 2) := by decide +kernel
theorem dL_law_473 : decode cL_law 473 = .ok (.iconst 2, 1) := by decide +kernel
theorem dL_law_474 : decode cL_law 474 = .ok (.iadd, 1) := by decide +kernel
theorem dL_law_475 : decode cL_law 475 = .ok (.iaload, 1) := by decide +kernel
theorem dL_law_476 : decode cL_law 476 = .ok (.invokevirtual 115, 3) := by decide +kernel
theorem dL_law_479 : decode cL_law 479 = .ok (.istore 6, 2) := by decide +kernel
theorem dL_law_481 : decode cL_law 481 = .ok (.aload_n 2, 1) := by decide +kernel
theorem dL_law_482 : decode cL_law 482 = .ok (.invokevirtual 97, 3) := by decide +kernel
theorem dL_law_485 : decode cL_law 485 = .ok (.iload 5, 2) := by decide +kernel
theorem dL_law_487 : decode cL_law 487 = .ok (.if_icmp .eq 5, 3) := by decide +kernel
theorem dL_law_490 : decode cL_law 490 = .ok (.iconst 0, 1) := by decide +kernel
theorem dL_law_491 : decode cL_law 491 = .ok (.ireturn, 1) := by decide +kernel
theorem dL_law_492 : decode cL_law 492 = .ok (.iload 5, 2) := by decide +kernel
theorem dL_law_494 : decode cL_law 494 = .ok (.ifCond .ne 15, 3) := by decide +kernel
theorem dL_law_497 : decode cL_law 497 = .ok (.aload_n 3, 1) := by decide +kernel
theorem dL_law_498 : decode cL_law 498 = .ok (.iconst 0, 1) := by decide +kernel
theorem dL_law_499 : decode cL_law 499 = .ok (.laload, 1) := by decide +kernel
theorem dL_law_500 : decode cL_law 500 = .ok (.iload 6, 2) := by decide +kernel
theorem dL_law_502 : decode cL_law 502 = .ok (.i2l, 1) := by decide +kernel
theorem dL_law_503 : decode cL_law 503 = .ok (.lcmp, 1) := by decide +kernel
theorem dL_law_504 : decode cL_law 504 = .ok (.ifCond .eq 5, 3) := by decide +kernel
theorem dL_law_507 : decode cL_law 507 = .ok (.iconst 0, 1) := by decide +kernel
theorem dL_law_508 : decode cL_law 508 = .ok (.ireturn, 1) := by decide +kernel
theorem dL_law_509 : decode cL_law 509 = .ok (.goto 1138, 3) := by decide +kernel
theorem dL_law_512 : decode cL_law 512 = .ok (.aload_n 1, 1) := by decide +kernel
theorem dL_law_513 : decode cL_law 513 = .ok (.aload_n 0, 1) := by decide +kernel
theorem dL_law_514 : decode cL_law 514 = .ok (.iload 4, 2) := by decide +kernel
theorem dL_law_516 : decode cL_law 516 = .ok (.iconst 1, 1) := by decide +kernel
theorem dL_law_517 : decode cL_law 517 = .ok (.iadd, 1) := by decide +kernel
theorem dL_law_518 : decode cL_law 518 = .ok (.iaload, 1) := by decide +kernel
theorem dL_law_519 : decode cL_law 519 = .ok (.aload_n 3, 1) := by decide +kernel
theorem dL_law_520 : decode cL_law 520 = .ok (.invokestatic 116, 3) := by decide +kernel
theorem dL_law_523 : decode cL_law 523 = .ok (.istore 5, 2) := by decide +kernel
theorem dL_law_525 : decode cL_law 525 = .ok (.aload_n 2, 1) := by decide +kernel
theorem dL_law_526 : decode cL_law 526 = .ok (.aload_n 0, 1) := by decide +kernel
theorem dL_law_527 : decode cL_law 527 = .ok (.iload 4, 2) := by decide +kernel
theorem dL_law_529 : decode cL_law 529 = .ok (.iconst 1, 1) := by decide +kernel
theorem dL_law_530 : decode cL_law 530 = .ok (.iadd, 1) := by decide +kernel
theorem dL_law_531 : decode cL_law 531 = .ok (.iaload, 1) := by decide +kernel
theorem dL_law_532 : decode cL_law 532 = .ok (.invokevirtual 118, 3) := by decide +kernel
theorem dL_law_535 : decode cL_law 535 = .ok (.istore 6, 2) := by decide +kernel
theorem dL_law_537 : decode cL_law 537 = .ok (.aload_n 2, 1) := by decide +kernel
theorem dL_law_538 : decode cL_law 538 = .ok (.invokevirtual 97, 3) := by decide +kernel
theorem dL_law_541 : decode cL_law 541 = .ok (.iload 5, 2) := by decide +kernel
theorem dL_law_543 : decode cL_law 543 = .ok (.if_icmp .eq 5, 3) := by decide +kernel
theorem dL_law_546 : decode cL_law 546 = .ok (.iconst 0, 1) := by decide +kernel
theorem dL_law_547 : decode cL_law 547 = .ok (.ireturn, 1) := by decide +kernel
theorem dL_law_548 : decode cL_law 548 = .ok (.iload 5, 2) := by decide +kernel
theorem dL_law_550 : decode cL_law 550 = .ok (.ifCond .ne 15, 3) := by decide +kernel
theorem dL_law_553 : decode cL_law 553 = .ok (.aload_n 3, 1) := by decide +kernel
theorem dL_law_554 : decode cL_law 554 = .ok (.iconst 0, 1) := by decide +kernel
theorem dL_law_555 : decode cL_law 555 = .ok (.laload, 1) := by decide +kernel
theorem dL_law_556 : decode cL_law 556 = .ok (.iload 6, 2) := by decide +kernel
theorem dL_law_558 : decode cL_law 558 = .ok (.i2l, 1) := by decide +kernel
theorem dL_law_559 : decode cL_law 559 = .ok (.lcmp, 1) := by decide +kernel
theorem dL_law_560 : decode cL_law 560 = .ok (.ifCond .eq 5, 3) := by decide +kernel
theorem dL_law_563 : decode cL_law 563 = .ok (.iconst 0, 1) := by decide +kernel
theorem dL_law_564 : decode cL_law 564 = .ok (.ireturn, 1) := by decide +kernel
theorem dL_law_565 : decode cL_law 565 = .ok (.goto 1082, 3) := by decide +kernel
theorem dL_law_568 : decode cL_law 568 = .ok (.aload_n 1, 1) := by decide +kernel
theorem dL_law_569 : decode cL_law 569 = .ok (.aload_n 0, 1) := by decide +kernel
theorem dL_law_570 : decode cL_law 570 = .ok (.iload 4, 2) := by decide +kernel
theorem dL_law_572 : decode cL_law 572 = .ok (.iconst 1, 1) := by decide +kernel
theorem dL_law_573 : decode cL_law 573 = .ok (.iadd, 1) := by decide +kernel
theorem dL_law_574 : decode cL_law 574 = .ok (.iaload, 1) := by decide +kernel
theorem dL_law_575 : decode cL_law 575 = .ok (.aload_n 3, 1) := by decide +kernel
theorem dL_law_576 : decode cL_law 576 = .ok (.invokestatic 119, 3) := by decide +kernel
theorem dL_law_579 : decode cL_law 579 = .ok (.istore 5, 2) := by decide +kernel
theorem dL_law_581 : decode cL_law 581 = .ok (.aload_n 2, 1) := by decide +kernel
theorem dL_law_582 : decode cL_law 582 = .ok (.aload_n 0, 1) := by decide +kernel
theorem dL_law_583 : decode cL_law 583 = .ok (.iload 4, 2) := by decide +kernel
theorem dL_law_585 : decode cL_law 585 = .ok (.iconst 1, 1) := by decide +kernel
theorem dL_law_586 : decode cL_law 586 = .ok (.iadd, 1) := by decide +kernel
theorem dL_law_587 : decode cL_law 587 = .ok (.iaload, 1) := by decide +kernel
theorem dL_law_588 : decode cL_law 588 = .ok (.invokevirtual 121, 3) := by decide +kernel
theorem dL_law_591 : decode cL_law 591 = .ok (.istore 6, 2) := by decide +kernel
theorem dL_law_593 : decode cL_law 593 = .ok (.aload_n 2, 1) := by decide +kernel
theorem dL_law_594 : decode cL_law 594 = .ok (.invokevirtual 97, 3) := by decide +kernel
theorem dL_law_597 : decode cL_law 597 = .ok (.iload 5, 2) := by decide +kernel
theorem dL_law_599 : decode cL_law 599 = .ok (.if_icmp .eq 5, 3) := by decide +kernel
theorem dL_law_602 : decode cL_law 602 = .ok (.iconst 0, 1) := by decide +kernel
theorem dL_law_603 : decode cL_law 603 = .ok (.ireturn, 1) := by decide +kernel
theorem dL_law_604 : decode cL_law 604 = .ok (.iload 5, 2) := by decide +kernel
theorem dL_law_606 : decode cL_law 606 = .ok (.ifCond .ne 15, 3) := by decide +kernel
theorem dL_law_609 : decode cL_law 609 = .ok (.aload_n 3, 1) := by decide +kernel
theorem dL_law_610 : decode cL_law 610 = .ok (.iconst 0, 1) := by decide +kernel
theorem dL_law_611 : decode cL_law 611 = .ok (.laload, 1) := by decide +kernel
theorem dL_law_612 : decode cL_law 612 = .ok (.iload 6, 2) := by decide +kernel
theorem dL_law_614 : decode cL_law 614 = .ok (.i2l, 1) := by decide +kernel
theorem dL_law_615 : decode cL_law 615 = .ok (.lcmp, 1) := by decide +kernel
theorem dL_law_616 : decode cL_law 616 = .ok (.ifCond .eq 5, 3) := by decide +kernel
theorem dL_law_619 : decode cL_law 619 = .ok (.iconst 0, 1) := by decide +kernel
theorem dL_law_620 : decode cL_law 620 = .ok (.ireturn, 1) := by decide +kernel
theorem dL_law_621 : decode cL_law 621 = .ok (.goto 1026, 3) := by decide +kernel
theorem dL_law_624 : decode cL_law 624 = .ok (.aload_n 1, 1) := by decide +kernel
theorem dL_law_625 : decode cL_law 625 = .ok (.aload_n 0, 1) := by decide +kernel
theorem dL_law_626 : decode cL_law 626 = .ok (.iload 4, 2) := by decide +kernel
theorem dL_law_628 : decode cL_law 628 = .ok (.iconst 1, 1) := by decide +kernel
theorem dL_law_629 : decode cL_law 629 = .ok (.iadd, 1) := by decide +kernel
theorem dL_law_630 : decode cL_law 630 = .ok (.iaload, 1) := by decide +kernel
theorem dL_law_631 : decode cL_law 631 = .ok (.aload_n 3, 1) := by decide +kernel
theorem dL_law_632 : decode cL_law 632 = .ok (.invokestatic 122, 3) := by decide +kernel
theorem dL_law_635 : decode cL_law 635 = .ok (.istore 5, 2) := by decide +kernel
theorem dL_law_637 : decode cL_law 637 = .ok (.aload_n 2, 1) := by decide +kernel
theorem dL_law_638 : decode cL_law 638 = .ok (.aload_n 0, 1) := by decide +kernel
theorem dL_law_639 : decode cL_law 639 = .ok (.iload 4, 2) := by decide +kernel
theorem dL_law_641 : decode cL_law 641 = .ok (.iconst 1, 1) := by decide +kernel
theorem dL_law_642 : decode cL_law 642 = .ok (.iadd, 1) := by decide +kernel
theorem dL_law_643 : decode cL_law 643 = .ok (.iaload, 1) := by decide +kernel
theorem dL_law_644 : decode cL_law 644 = .ok (.invokevirtual 124, 3) := by decide +kernel
theorem dL_law_647 : decode cL_law 647 = .ok (.istore 6, 2) := by decide +kernel
theorem dL_law_649 : decode cL_law 649 = .ok (.aload_n 2, 1) := by decide +kernel
theorem dL_law_650 : decode cL_law 650 = .ok (.invokevirtual 97, 3) := by decide +kernel
theorem dL_law_653 : decode cL_law 653 = .ok (.iload 5, 2) := by decide +kernel
theorem dL_law_655 : decode cL_law 655 = .ok (.if_icmp .eq 5, 3) := by decide +kernel
theorem dL_law_658 : decode cL_law 658 = .ok (.iconst 0, 1) := by decide +kernel
theorem dL_law_659 : decode cL_law 659 = .ok (.ireturn, 1) := by decide +kernel
theorem dL_law_660 : decode cL_law 660 = .ok (.iload 5, 2) := by decide +kernel
theorem dL_law_662 : decode cL_law 662 = .ok (.ifCond .ne 15, 3) := by decide +kernel
theorem dL_law_665 : decode cL_law 665 = .ok (.aload_n 3, 1) := by decide +kernel
theorem dL_law_666 : decode cL_law 666 = .ok (.iconst 0, 1) := by decide +kernel
theorem dL_law_667 : decode cL_law 667 = .ok (.laload, 1) := by decide +kernel
theorem dL_law_668 : decode cL_law 668 = .ok (.iload 6, 2) := by decide +kernel
theorem dL_law_670 : decode cL_law 670 = .ok (.i2l, 1) := by decide +kernel
theorem dL_law_671 : decode cL_law 671 = .ok (.lcmp, 1) := by decide +kernel
theorem dL_law_672 : decode cL_law 672 = .ok (.ifCond .eq 5, 3) := by decide +kernel
theorem dL_law_675 : decode cL_law 675 = .ok (.iconst 0, 1) := by decide +kernel
theorem dL_law_676 : decode cL_law 676 = .ok (.ireturn, 1) := by decide +kernel
theorem dL_law_677 : decode cL_law 677 = .ok (.goto 970, 3) := by decide +kernel
theorem dL_law_680 : decode cL_law 680 = .ok (.aload_n 1, 1) := by decide +kernel
theorem dL_law_681 : decode cL_law 681 = .ok (.aload_n 0, 1) := by decide +kernel
theorem dL_law_682 : decode cL_law 682 = .ok (.iload 4, 2) := by decide +kernel
theorem dL_law_684 : decode cL_law 684 = .ok (.iconst 1, 1) := by decide +kernel
theorem dL_law_685 : decode cL_law 685 = .ok (.iadd, 1) := by decide +kernel
theorem dL_law_686 : decode cL_law 686 = .ok (.iaload, 1) := by decide +kernel
theorem dL_law_687 : decode cL_law 687 = .ok (.aload_n 0, 1) := by decide +kernel
theorem dL_law_688 : decode cL_law 688 = .ok (.iload 4, 2) := by decide +kernel
theorem dL_law_690 : decode cL_law 690 = .ok (.iconst 2, 1) := by decide +kernel
theorem dL_law_691 : decode cL_law 691 = .ok (.iadd, 1) := by decide +kernel
theorem dL_law_692 : decode cL_law 692 = .ok (.iaload, 1) := by decide +kernel
theorem dL_law_693 : decode cL_law 693 = .ok (.aload_n 3, 1) := by decide +kernel
theorem dL_law_694 : decode cL_law 694 = .ok (.invokestatic 125, 3) := by decide +kernel
theorem dL_law_697 : decode cL_law 697 = .ok (.istore 5, 2) := by decide +kernel
theorem dL_law_699 : decode cL_law 699 = .ok (.aload_n 2, 1) := by decide +kernel
theorem dL_law_700 : decode cL_law 700 = .ok (.aload_n 0, 1) := by decide +kernel
theorem dL_law_701 : decode cL_law 701 = .ok (.iload 4, 2) := by decide +kernel
theorem dL_law_703 : decode cL_law 703 = .ok (.iconst 1, 1) := by decide +kernel
theorem dL_law_704 : decode cL_law 704 = .ok (.iadd, 1) := by decide +kernel
theorem dL_law_705 : decode cL_law 705 = .ok (.iaload, 1) := by decide +kernel
theorem dL_law_706 : decode cL_law 706 = .ok (.aload_n 0, 1) := by decide +kernel
theorem dL_law_707 : decode cL_law 707 = .ok (.iload 4, 2) := by decide +kernel
theorem dL_law_709 : decode cL_law 709 = .ok (.iconst 2, 1) := by decide +kernel
theorem dL_law_710 : decode cL_law 710 = .ok (.iadd, 1) := by decide +kernel
theorem dL_law_711 : decode cL_law 711 = .ok (.iaload, 1) := by decide +kernel
theorem dL_law_712 : decode cL_law 712 = .ok (.invokevirtual 127, 3) := by decide +kernel
theorem dL_law_715 : decode cL_law 715 = .ok (.istore 6, 2) := by decide +kernel
theorem dL_law_717 : decode cL_law 717 = .ok (.aload_n 2, 1) := by decide +kernel
theorem dL_law_718 : decode cL_law 718 = .ok (.invokevirtual 97, 3) := by decide +kernel
theorem dL_law_721 : decode cL_law 721 = .ok (.iload 5, 2) := by decide +kernel
theorem dL_law_723 : decode cL_law 723 = .ok (.if_icmp .eq 5, 3) := by decide +kernel
theorem dL_law_726 : decode cL_law 726 = .ok (.iconst 0, 1) := by decide +kernel
theorem dL_law_727 : decode cL_law 727 = .ok (.ireturn, 1) := by decide +kernel
theorem dL_law_728 : decode cL_law 728 = .ok (.iload 5, 2) := by decide +kernel
theorem dL_law_730 : decode cL_law 730 = .ok (.ifCond .ne 15, 3) := by decide +kernel
theorem dL_law_733 : decode cL_law 733 = .ok (.aload_n 3, 1) := by decide +kernel
theorem dL_law_734 : decode cL_law 734 = .ok (.iconst 0, 1) := by decide +kernel
theorem dL_law_735 : decode cL_law 735 = .ok (.laload, 1) := by decide +kernel
theorem dL_law_736 : decode cL_law 736 = .ok (.iload 6, 2) := by decide +kernel
theorem dL_law_738 : decode cL_law 738 = .ok (.i2l, 1) := by decide +kernel
theorem dL_law_739 : decode cL_law 739 = .ok (.lcmp, 1) := by decide +kernel
theorem dL_law_740 : decode cL_law 740 = .ok (.ifCond .eq 5, 3) := by decide +kernel
theorem dL_law_743 : decode cL_law 743 = .ok (.iconst 0, 1) := by decide +kernel
theorem dL_law_744 : decode cL_law 744 = .ok (.ireturn, 1) := by decide +kernel
theorem dL_law_745 : decode cL_law 745 = .ok (.goto 902, 3) := by decide +kernel
theorem dL_law_748 : decode cL_law 748 = .ok (.aload_n 1, 1) := by decide +kernel
theorem dL_law_749 : decode cL_law 749 = .ok (.aload_n 0, 1) := by decide +kernel
theorem dL_law_750 : decode cL_law 750 = .ok (.iload 4, 2) := by decide +kernel
theorem dL_law_752 : decode cL_law 752 = .ok (.iconst 1, 1) := by decide +kernel
theorem dL_law_753 : decode cL_law 753 = .ok (.iadd, 1) := by decide +kernel
theorem dL_law_754 : decode cL_law 754 = .ok (.iaload, 1) := by decide +kernel
theorem dL_law_755 : decode cL_law 755 = .ok (.aload_n 0, 1) := by decide +kernel
theorem dL_law_756 : decode cL_law 756 = .ok (.iload 4, 2) := by decide +kernel
theorem dL_law_758 : decode cL_law 758 = .ok (.iconst 2, 1) := by decide +kernel
theorem dL_law_759 : decode cL_law 759 = .ok (.iadd, 1) := by decide +kernel
theorem dL_law_760 : decode cL_law 760 = .ok (.iaload, 1) := by decide +kernel
theorem dL_law_761 : decode cL_law 761 = .ok (.aload_n 3, 1) := by decide +kernel
theorem dL_law_762 : decode cL_law 762 = .ok (.invokestatic 128, 3) := by decide +kernel
theorem dL_law_765 : decode cL_law 765 = .ok (.istore 5, 2) := by decide +kernel
theorem dL_law_767 : decode cL_law 767 = .ok (.aload_n 2, 1) := by decide +kernel
theorem dL_law_768 : decode cL_law 768 = .ok (.aload_n 0, 1) := by decide +kernel
theorem dL_law_769 : decode cL_law 769 = .ok (.iload 4, 2) := by decide +kernel
theorem dL_law_771 : decode cL_law 771 = .ok (.iconst 1, 1) := by decide +kernel
theorem dL_law_772 : decode cL_law 772 = .ok (.iadd, 1) := by decide +kernel
theorem dL_law_773 : decode cL_law 773 = .ok (.iaload, 1) := by decide +kernel
theorem dL_law_774 : decode cL_law 774 = .ok (.aload_n 0, 1) := by decide +kernel
theorem dL_law_775 : decode cL_law 775 = .ok (.iload 4, 2) := by decide +kernel
theorem dL_law_777 : decode cL_law 777 = .ok (.iconst 2, 1) := by decide +kernel
theorem dL_law_778 : decode cL_law 778 = .ok (.iadd, 1) := by decide +kernel
theorem dL_law_779 : decode cL_law 779 = .ok (.iaload, 1) := by decide +kernel
theorem dL_law_780 : decode cL_law 780 = .ok (.invokevirtual 130, 3) := by decide +kernel
theorem dL_law_783 : decode cL_law 783 = .ok (.istore 6, 2) := by decide +kernel
theorem dL_law_785 : decode cL_law 785 = .ok (.aload_n 2, 1) := by decide +kernel
theorem dL_law_786 : decode cL_law 786 = .ok (.invokevirtual 97, 3) := by decide +kernel
theorem dL_law_789 : decode cL_law 789 = .ok (.iload 5, 2) := by decide +kernel
theorem dL_law_791 : decode cL_law 791 = .ok (.if_icmp .eq 5, 3) := by decide +kernel
theorem dL_law_794 : decode cL_law 794 = .ok (.iconst 0, 1) := by decide +kernel
theorem dL_law_795 : decode cL_law 795 = .ok (.ireturn, 1) := by decide +kernel
theorem dL_law_796 : decode cL_law 796 = .ok (.iload 5, 2) := by decide +kernel
theorem dL_law_798 : decode cL_law 798 = .ok (.ifCond .ne 15, 3) := by decide +kernel
theorem dL_law_801 : decode cL_law 801 = .ok (.aload_n 3, 1) := by decide +kernel
theorem dL_law_802 : decode cL_law 802 = .ok (.iconst 0, 1) := by decide +kernel
theorem dL_law_803 : decode cL_law 803 = .ok (.laload, 1) := by decide +kernel
theorem dL_law_804 : decode cL_law 804 = .ok (.iload 6, 2) := by decide +kernel
theorem dL_law_806 : decode cL_law 806 = .ok (.i2l, 1) := by decide +kernel
theorem dL_law_807 : decode cL_law 807 = .ok (.lcmp, 1) := by decide +kernel
theorem dL_law_808 : decode cL_law 808 = .ok (.ifCond .eq 5, 3) := by decide +kernel
theorem dL_law_811 : decode cL_law 811 = .ok (.iconst 0, 1) := by decide +kernel
theorem dL_law_812 : decode cL_law 812 = .ok (.ireturn, 1) := by decide +kernel
theorem dL_law_813 : decode cL_law 813 = .ok (.goto 834, 3) := by decide +kernel
theorem dL_law_816 : decode cL_law 816 = .ok (.aload_n 1, 1) := by decide +kernel
theorem dL_law_817 : decode cL_law 817 = .ok (.aload_n 0, 1) := by decide +kernel
theorem dL_law_818 : decode cL_law 818 = .ok (.iload 4, 2) := by decide +kernel
theorem dL_law_820 : decode cL_law 820 = .ok (.iconst 1, 1) := by decide +kernel
theorem dL_law_821 : decode cL_law 821 = .ok (.iadd, 1) := by decide +kernel
theorem dL_law_822 : decode cL_law 822 = .ok (.iaload, 1) := by decide +kernel
theorem dL_law_823 : decode cL_law 823 = .ok (.aload_n 3, 1) := by decide +kernel
theorem dL_law_824 : decode cL_law 824 = .ok (.invokestatic 131, 3) := by decide +kernel
theorem dL_law_827 : decode cL_law 827 = .ok (.istore 5, 2) := by decide +kernel
theorem dL_law_829 : decode cL_law 829 = .ok (.aload_n 2, 1) := by decide +kernel
theorem dL_law_830 : decode cL_law 830 = .ok (.aload_n 0, 1) := by decide +kernel
theorem dL_law_831 : decode cL_law 831 = .ok (.iload 4, 2) := by decide +kernel
theorem dL_law_833 : decode cL_law 833 = .ok (.iconst 1, 1) := by decide +kernel
theorem dL_law_834 : decode cL_law 834 = .ok (.iadd, 1) := by decide +kernel
theorem dL_law_835 : decode cL_law 835 = .ok (.iaload, 1) := by decide +kernel
theorem dL_law_836 : decode cL_law 836 = .ok (.invokevirtual 133, 3) := by decide +kernel
theorem dL_law_839 : decode cL_law 839 = .ok (.istore 6, 2) := by decide +kernel
theorem dL_law_841 : decode cL_law 841 = .ok (.aload_n 2, 1) := by decide +kernel
theorem dL_law_842 : decode cL_law 842 = .ok (.invokevirtual 97, 3) := by decide +kernel
theorem dL_law_845 : decode cL_law 845 = .ok (.iload 5, 2) := by decide +kernel
theorem dL_law_847 : decode cL_law 847 = .ok (.if_icmp .eq 5, 3) := by decide +kernel
theorem dL_law_850 : decode cL_law 850 = .ok (.iconst 0, 1) := by decide +kernel
theorem dL_law_851 : decode cL_law 851 = .ok (.ireturn, 1) := by decide +kernel
theorem dL_law_852 : decode cL_law 852 = .ok (.iload 5, 2) := by decide +kernel
theorem dL_law_854 : decode cL_law 854 = .ok (.ifCond .ne 15, 3) := by decide +kernel
theorem dL_law_857 : decode cL_law 857 = .ok (.aload_n 3, 1) := by decide +kernel
theorem dL_law_858 : decode cL_law 858 = .ok (.iconst 0, 1) := by decide +kernel
theorem dL_law_859 : decode cL_law 859 = .ok (.laload, 1) := by decide +kernel
theorem dL_law_860 : decode cL_law 860 = .ok (.iload 6, 2) := by decide +kernel
theorem dL_law_862 : decode cL_law 862 = .ok (.i2l, 1) := by decide +kernel
theorem dL_law_863 : decode cL_law 863 = .ok (.lcmp, 1) := by decide +kernel
theorem dL_law_864 : decode cL_law 864 = .ok (.ifCond .eq 5, 3) := by decide +kernel
theorem dL_law_867 : decode cL_law 867 = .ok (.iconst 0, 1) := by decide +kernel
theorem dL_law_868 : decode cL_law 868 = .ok (.ireturn, 1) := by decide +kernel
theorem dL_law_869 : decode cL_law 869 = .ok (.goto 778, 3) := by decide +kernel
theorem dL_law_872 : decode cL_law 872 = .ok (.aload_n 1, 1) := by decide +kernel
theorem dL_law_873 : decode cL_law 873 = .ok (.aload_n 0, 1) := by decide +kernel
theorem dL_law_874 : decode cL_law 874 = .ok (.iload 4, 2) := by decide +kernel
theorem dL_law_876 : decode cL_law 876 = .ok (.iconst 1, 1) := by decide +kernel
theorem dL_law_877 : decode cL_law 877 = .ok (.iadd, 1) := by decide +kernel
theorem dL_law_878 : decode cL_law 878 = .ok (.iaload, 1) := by decide +kernel
theorem dL_law_879 : decode cL_law 879 = .ok (.aload_n 0, 1) := by decide +kernel
theorem dL_law_880 : decode cL_law 880 = .ok (.iload 4, 2) := by decide +kernel
theorem dL_law_882 : decode cL_law 882 = .ok (.iconst 2, 1) := by decide +kernel
theorem dL_law_883 : decode cL_law 883 = .ok (.iadd, 1) := by decide +kernel
theorem dL_law_884 : decode cL_law 884 = .ok (.iaload, 1) := by decide +kernel
theorem dL_law_885 : decode cL_law 885 = .ok (.aload_n 3, 1) := by decide +kernel
theorem dL_law_886 : decode cL_law 886 = .ok (.invokestatic 134, 3) := by decide +kernel
theorem dL_law_889 : decode cL_law 889 = .ok (.istore 5, 2) := by decide +kernel
theorem dL_law_891 : decode cL_law 891 = .ok (.aload_n 2, 1) := by decide +kernel
theorem dL_law_892 : decode cL_law 892 = .ok (.aload_n 0, 1) := by decide +kernel
theorem dL_law_893 : decode cL_law 893 = .ok (.iload 4, 2) := by decide +kernel
theorem dL_law_895 : decode cL_law 895 = .ok (.iconst 1, 1) := by decide +kernel
theorem dL_law_896 : decode cL_law 896 = .ok (.iadd, 1) := by decide +kernel
theorem dL_law_897 : decode cL_law 897 = .ok (.iaload, 1) := by decide +kernel
theorem dL_law_898 : decode cL_law 898 = .ok (.aload_n 0, 1) := by decide +kernel
theorem dL_law_899 : decode cL_law 899 = .ok (.iload 4, 2) := by decide +kernel
theorem dL_law_901 : decode cL_law 901 = .ok (.iconst 2, 1) := by decide +kernel
theorem dL_law_902 : decode cL_law 902 = .ok (.iadd, 1) := by decide +kernel
theorem dL_law_903 : decode cL_law 903 = .ok (.iaload, 1) := by decide +kernel
theorem dL_law_904 : decode cL_law 904 = .ok (.invokevirtual 136, 3) := by decide +kernel
theorem dL_law_907 : decode cL_law 907 = .ok (.istore 6, 2) := by decide +kernel
theorem dL_law_909 : decode cL_law 909 = .ok (.aload_n 2, 1) := by decide +kernel
theorem dL_law_910 : decode cL_law 910 = .ok (.invokevirtual 97, 3) := by decide +kernel
theorem dL_law_913 : decode cL_law 913 = .ok (.iload 5, 2) := by decide +kernel
theorem dL_law_915 : decode cL_law 915 = .ok (.if_icmp .eq 5, 3) := by decide +kernel
theorem dL_law_918 : decode cL_law 918 = .ok (.iconst 0, 1) := by decide +kernel
theorem dL_law_919 : decode cL_law 919 = .ok (.ireturn, 1) := by decide +kernel
theorem dL_law_920 : decode cL_law 920 = .ok (.iload 5, 2) := by decide +kernel
theorem dL_law_922 : decode cL_law 922 = .ok (.ifCond .ne 15, 3) := by decide +kernel
theorem dL_law_925 : decode cL_law 925 = .ok (.aload_n 3, 1) := by decide +kernel
theorem dL_law_926 : decode cL_law 926 = .ok (.iconst 0, 1) := by decide +kernel
theorem dL_law_927 : decode cL_law 927 = .ok (.laload, 1) := by decide +kernel
theorem dL_law_928 : decode cL_law 928 = .ok (.iload 6, 2) := by decide +kernel
theorem dL_law_930 : decode cL_law 930 = .ok (.i2l, 1) := by decide +kernel
theorem dL_law_931 : decode cL_law 931 = .ok (.lcmp, 1) := by decide +kernel
theorem dL_law_932 : decode cL_law 932 = .ok (.ifCond .eq 5, 3) := by decide +kernel
theorem dL_law_935 : decode cL_law 935 = .ok (.iconst 0, 1) := by decide +kernel
theorem dL_law_936 : decode cL_law 936 = .ok (.ireturn, 1) := by decide +kernel
theorem dL_law_937 : decode cL_law 937 = .ok (.goto 710, 3) := by decide +kernel
theorem dL_law_940 : decode cL_law 940 = .ok (.aload_n 1, 1) := by decide +kernel
theorem dL_law_941 : decode cL_law 941 = .ok (.aload_n 0, 1) := by decide +kernel
theorem dL_law_942 : decode cL_law 942 = .ok (.iload 4, 2) := by decide +kernel
theorem dL_law_944 : decode cL_law 944 = .ok (.iconst 1, 1) := by decide +kernel
theorem dL_law_945 : decode cL_law 945 = .ok (.iadd, 1) := by decide +kernel
theorem dL_law_946 : decode cL_law 946 = .ok (.iaload, 1) := by decide +kernel
theorem dL_law_947 : decode cL_law 947 = .ok (.aload_n 0, 1) := by decide +kernel
theorem dL_law_948 : decode cL_law 948 = .ok (.iload 4, 2) := by decide +kernel
theorem dL_law_950 : decode cL_law 950 = .ok (.iconst 2, 1) := by decide +kernel
theorem dL_law_951 : decode cL_law 951 = .ok (.iadd, 1) := by decide +kernel
theorem dL_law_952 : decode cL_law 952 = .ok (.iaload, 1) := by decide +kernel
theorem dL_law_953 : decode cL_law 953 = .ok (.aload_n 3, 1) := by decide +kernel
theorem dL_law_954 : decode cL_law 954 = .ok (.invokestatic 137, 3) := by decide +kernel
theorem dL_law_957 : decode cL_law 957 = .ok (.istore 5, 2) := by decide +kernel
theorem dL_law_959 : decode cL_law 959 = .ok (.aload_n 2, 1) := by decide +kernel
theorem dL_law_960 : decode cL_law 960 = .ok (.aload_n 0, 1) := by decide +kernel
theorem dL_law_961 : decode cL_law 961 = .ok (.iload 4, 2) := by decide +kernel
theorem dL_law_963 : decode cL_law 963 = .ok (.iconst 1, 1) := by decide +kernel
theorem dL_law_964 : decode cL_law 964 = .ok (.iadd, 1) := by decide +kernel
theorem dL_law_965 : decode cL_law 965 = .ok (.iaload, 1) := by decide +kernel
theorem dL_law_966 : decode cL_law 966 = .ok (.aload_n 0, 1) := by decide +kernel
theorem dL_law_967 : decode cL_law 967 = .ok (.iload 4, 2) := by decide +kernel
theorem dL_law_969 : decode cL_law 969 = .ok (.iconst 2, 1) := by decide +kernel
theorem dL_law_970 : decode cL_law 970 = .ok (.iadd, 1) := by decide +kernel
theorem dL_law_971 : decode cL_law 971 = .ok (.iaload, 1) := by decide +kernel
theorem dL_law_972 : decode cL_law 972 = .ok (.invokevirtual 139, 3) := by decide +kernel
theorem dL_law_975 : decode cL_law 975 = .ok (.istore 6, 2) := by decide +kernel
theorem dL_law_977 : decode cL_law 977 = .ok (.aload_n 2, 1) := by decide +kernel
theorem dL_law_978 : decode cL_law 978 = .ok (.invokevirtual 97, 3) := by decide +kernel
theorem dL_law_981 : decode cL_law 981 = .ok (.iload 5, 2) := by decide +kernel
theorem dL_law_983 : decode cL_law 983 = .ok (.if_icmp .eq 5, 3) := by decide +kernel
theorem dL_law_986 : decode cL_law 986 = .ok (.iconst 0, 1) := by decide +kernel
theorem dL_law_987 : decode cL_law 987 = .ok (.ireturn, 1) := by decide +kernel
theorem dL_law_988 : decode cL_law 988 = .ok (.iload 5, 2) := by decide +kernel
theorem dL_law_990 : decode cL_law 990 = .ok (.ifCond .ne 15, 3) := by decide +kernel
theorem dL_law_993 : decode cL_law 993 = .ok (.aload_n 3, 1) := by decide +kernel
theorem dL_law_994 : decode cL_law 994 = .ok (.iconst 0, 1) := by decide +kernel
theorem dL_law_995 : decode cL_law 995 = .ok (.laload, 1) := by decide +kernel
theorem dL_law_996 : decode cL_law 996 = .ok (.iload 6, 2) := by decide +kernel
theorem dL_law_998 : decode cL_law 998 = .ok (.i2l, 1) := by decide +kernel
theorem dL_law_999 : decode cL_law 999 = .ok (.lcmp, 1) := by decide +kernel
theorem dL_law_1000 : decode cL_law 1000 = .ok (.ifCond .eq 5, 3) := by decide +kernel
theorem dL_law_1003 : decode cL_law 1003 = .ok (.iconst 0, 1) := by decide +kernel
theorem dL_law_1004 : decode cL_law 1004 = .ok (.ireturn, 1) := by decide +kernel
theorem dL_law_1005 : decode cL_law 1005 = .ok (.goto 642, 3) := by decide +kernel
theorem dL_law_1008 : decode cL_law 1008 = .ok (.aload_n 1, 1) := by decide +kernel
theorem dL_law_1009 : decode cL_law 1009 = .ok (.aload_n 0, 1) := by decide +kernel
theorem dL_law_1010 : decode cL_law 1010 = .ok (.iload 4, 2) := by decide +kernel
theorem dL_law_1012 : decode cL_law 1012 = .ok (.iconst 1, 1) := by decide +kernel
theorem dL_law_1013 : decode cL_law 1013 = .ok (.iadd, 1) := by decide +kernel
theorem dL_law_1014 : decode cL_law 1014 = .ok (.iaload, 1) := by decide +kernel
theorem dL_law_1015 : decode cL_law 1015 = .ok (.aload_n 3, 1) := by decide +kernel
theorem dL_law_1016 : decode cL_law 1016 = .ok (.invokestatic 140, 3) := by decide +kernel
theorem dL_law_1019 : decode cL_law 1019 = .ok (.istore 5, 2) := by decide +kernel
theorem dL_law_1021 : decode cL_law 1021 = .ok (.aload_n 2, 1) := by decide +kernel
theorem dL_law_1022 : decode cL_law 1022 = .ok (.aload_n 0, 1) := by decide +kernel
theorem dL_law_1023 : decode cL_law 1023 = .ok (.iload 4, 2) := by decide +kernel
theorem dL_law_1025 : decode cL_law 1025 = .ok (.iconst 1, 1) := by decide +kernel
theorem dL_law_1026 : decode cL_law 1026 = .ok (.iadd, 1) := by decide +kernel
theorem dL_law_1027 : decode cL_law 1027 = .ok (.iaload, 1) := by decide +kernel
theorem dL_law_1028 : decode cL_law 1028 = .ok (.invokevirtual 142, 3) := by decide +kernel
theorem dL_law_1031 : decode cL_law 1031 = .ok (.istore 6, 2) := by decide +kernel
theorem dL_law_1033 : decode cL_law 1033 = .ok (.aload_n 2, 1) := by decide +kernel
theorem dL_law_1034 : decode cL_law 1034 = .ok (.invokevirtual 97, 3) := by decide +kernel
theorem dL_law_1037 : decode cL_law 1037 = .ok (.iload 5, 2) := by decide +kernel
theorem dL_law_1039 : decode cL_law 1039 = .ok (.if_icmp .eq 5, 3) := by decide +kernel
theorem dL_law_1042 : decode cL_law 1042 = .ok (.iconst 0, 1) := by decide +kernel
theorem dL_law_1043 : decode cL_law 1043 = .ok (.ireturn, 1) := by decide +kernel
theorem dL_law_1044 : decode cL_law 1044 = .ok (.iload 5, 2) := by decide +kernel
theorem dL_law_1046 : decode cL_law 1046 = .ok (.ifCond .ne 15, 3) := by decide +kernel
theorem dL_law_1049 : decode cL_law 1049 = .ok (.aload_n 3, 1) := by decide +kernel
theorem dL_law_1050 : decode cL_law 1050 = .ok (.iconst 0, 1) := by decide +kernel
theorem dL_law_1051 : decode cL_law 1051 = .ok (.laload, 1) := by decide +kernel
theorem dL_law_1052 : decode cL_law 1052 = .ok (.iload 6, 2) := by decide +kernel
theorem dL_law_1054 : decode cL_law 1054 = .ok (.i2l, 1) := by decide +kernel
theorem dL_law_1055 : decode cL_law 1055 = .ok (.lcmp, 1) := by decide +kernel
theorem dL_law_1056 : decode cL_law 1056 = .ok (.ifCond .eq 5, 3) := by decide +kernel
theorem dL_law_1059 : decode cL_law 1059 = .ok (.iconst 0, 1) := by decide +kernel
theorem dL_law_1060 : decode cL_law 1060 = .ok (.ireturn, 1) := by decide +kernel
theorem dL_law_1061 : decode cL_law 1061 = .ok (.goto 586, 3) := by decide +kernel
theorem dL_law_1064 : decode cL_law 1064 = .ok (.aload_n 1, 1) := by decide +kernel
theorem dL_law_1065 : decode cL_law 1065 = .ok (.aload_n 0, 1) := by decide +kernel
theorem dL_law_1066 : decode cL_law 1066 = .ok (.iload 4, 2) := by decide +kernel
theorem dL_law_1068 : decode cL_law 1068 = .ok (.iconst 1, 1) := by decide +kernel
theorem dL_law_1069 : decode cL_law 1069 = .ok (.iadd, 1) := by decide +kernel
theorem dL_law_1070 : decode cL_law 1070 = .ok (.iaload, 1) := by decide +kernel
theorem dL_law_1071 : decode cL_law 1071 = .ok (.aload_n 3, 1) := by decide +kernel
theorem dL_law_1072 : decode cL_law 1072 = .ok (.invokestatic 143, 3) := by decide +kernel
theorem dL_law_1075 : decode cL_law 1075 = .ok (.istore 5, 2) := by decide +kernel
theorem dL_law_1077 : decode cL_law 1077 = .ok (.aload_n 2, 1) := by decide +kernel
theorem dL_law_1078 : decode cL_law 1078 = .ok (.aload_n 0, 1) := by decide +kernel
theorem dL_law_1079 : decode cL_law 1079 = .ok (.iload 4, 2) := by decide +kernel
theorem dL_law_1081 : decode cL_law 1081 = .ok (.iconst 1, 1) := by decide +kernel
theorem dL_law_1082 : decode cL_law 1082 = .ok (.iadd, 1) := by decide +kernel
theorem dL_law_1083 : decode cL_law 1083 = .ok (.iaload, 1) := by decide +kernel
theorem dL_law_1084 : decode cL_law 1084 = .ok (.invokevirtual 145, 3) := by decide +kernel
theorem dL_law_1087 : decode cL_law 1087 = .ok (.istore 6, 2) := by decide +kernel
theorem dL_law_1089 : decode cL_law 1089 = .ok (.aload_n 2, 1) := by decide +kernel
theorem dL_law_1090 : decode cL_law 1090 = .ok (.invokevirtual 97, 3) := by decide +kernel
theorem dL_law_1093 : decode cL_law 1093 = .ok (.iload 5, 2) := by decide +kernel
theorem dL_law_1095 : decode cL_law 1095 = .ok (.if_icmp .eq 5, 3) := by decide +kernel
theorem dL_law_1098 : decode cL_law 1098 = .ok (.iconst 0, 1) := by decide +kernel
theorem dL_law_1099 : decode cL_law 1099 = .ok (.ireturn, 1) := by decide +kernel
theorem dL_law_1100 : decode cL_law 1100 = .ok (.iload 5, 2) := by decide +kernel
theorem dL_law_1102 : decode cL_law 1102 = .ok (.ifCond .ne 15, 3) := by decide +kernel
theorem dL_law_1105 : decode cL_law 1105 = .ok (.aload_n 3, 1) := by decide +kernel
theorem dL_law_1106 : decode cL_law 1106 = .ok (.iconst 0, 1) := by decide +kernel
theorem dL_law_1107 : decode cL_law 1107 = .ok (.laload, 1) := by decide +kernel
theorem dL_law_1108 : decode cL_law 1108 = .ok (.iload 6, 2) := by decide +kernel
theorem dL_law_1110 : decode cL_law 1110 = .ok (.i2l, 1) := by decide +kernel
theorem dL_law_1111 : decode cL_law 1111 = .ok (.lcmp, 1) := by decide +kernel
theorem dL_law_1112 : decode cL_law 1112 = .ok (.ifCond .eq 5, 3) := by decide +kernel
theorem dL_law_1115 : decode cL_law 1115 = .ok (.iconst 0, 1) := by decide +kernel
theorem dL_law_1116 : decode cL_law 1116 = .ok (.ireturn, 1) := by decide +kernel
theorem dL_law_1117 : decode cL_law 1117 = .ok (.goto 530, 3) := by decide +kernel
theorem dL_law_1120 : decode cL_law 1120 = .ok (.aload_n 1, 1) := by decide +kernel
theorem dL_law_1121 : decode cL_law 1121 = .ok (.invokevirtual 146, 3) := by decide +kernel
theorem dL_law_1124 : decode cL_law 1124 = .ok (.aload_n 2, 1) := by decide +kernel
theorem dL_law_1125 : decode cL_law 1125 = .ok (.invokevirtual 149, 3) := by decide +kernel
theorem dL_law_1128 : decode cL_law 1128 = .ok (.if_icmp .eq 519, 3) := by decide +kernel
theorem dL_law_1131 : decode cL_law 1131 = .ok (.iconst 0, 1) := by decide +kernel
theorem dL_law_1132 : decode cL_law 1132 = .ok (.ireturn, 1) := by decide +kernel
theorem dL_law_1133 : decode cL_law 1133 = .ok (.aload_n 1, 1) := by decide +kernel
theorem dL_law_1134 : decode cL_law 1134 = .ok (.aload_n 0, 1) := by decide +kernel
theorem dL_law_1135 : decode cL_law 1135 = .ok (.iload 4, 2) := by decide +kernel
theorem dL_law_1137 : decode cL_law 1137 = .ok (.iconst 1, 1) := by decide +kernel
theorem dL_law_1138 : decode cL_law 1138 = .ok (.iadd, 1) := by decide +kernel
theorem dL_law_1139 : decode cL_law 1139 = .ok (.iaload, 1) := by decide +kernel
theorem dL_law_1140 : decode cL_law 1140 = .ok (.aload_n 0, 1) := by decide +kernel
theorem dL_law_1141 : decode cL_law 1141 = .ok (.iload 4, 2) := by decide +kernel
theorem dL_law_1143 : decode cL_law 1143 = .ok (.iconst 2, 1) := by decide +kernel
theorem dL_law_1144 : decode cL_law 1144 = .ok (.iadd, 1) := by decide +kernel
theorem dL_law_1145 : decode cL_law 1145 = .ok (.iaload, 1) := by decide +kernel
theorem dL_law_1146 : decode cL_law 1146 = .ok (.aload_n 0, 1) := by decide +kernel
theorem dL_law_1147 : decode cL_law 1147 = .ok (.iload 4, 2) := by decide +kernel
theorem dL_law_1149 : decode cL_law 1149 = .ok (.iconst 3, 1) := by decide +kernel
theorem dL_law_1150 : decode cL_law 1150 = .ok (.iadd, 1) := by decide +kernel
theorem dL_law_1151 : decode cL_law 1151 = .ok (.iaload, 1) := by decide +kernel
theorem dL_law_1152 : decode cL_law 1152 = .ok (.aload_n 3, 1) := by decide +kernel
theorem dL_law_1153 : decode cL_law 1153 = .ok (.invokestatic 150, 3) := by decide +kernel
theorem dL_law_1156 : decode cL_law 1156 = .ok (.istore 5, 2) := by decide +kernel
theorem dL_law_1158 : decode cL_law 1158 = .ok (.aload_n 2, 1) := by decide +kernel
theorem dL_law_1159 : decode cL_law 1159 = .ok (.aload_n 0, 1) := by decide +kernel
theorem dL_law_1160 : decode cL_law 1160 = .ok (.iload 4, 2) := by decide +kernel
theorem dL_law_1162 : decode cL_law 1162 = .ok (.iconst 1, 1) := by decide +kernel
theorem dL_law_1163 : decode cL_law 1163 = .ok (.iadd, 1) := by decide +kernel
theorem dL_law_1164 : decode cL_law 1164 = .ok (.iaload, 1) := by decide +kernel
theorem dL_law_1165 : decode cL_law 1165 = .ok (.aload_n 0, 1) := by decide +kernel
theorem dL_law_1166 : decode cL_law 1166 = .ok (.iload 4, 2) := by decide +kernel
theorem dL_law_1168 : decode cL_law 1168 = .ok (.iconst 2, 1) := by decide +kernel
theorem dL_law_1169 : decode cL_law 1169 = .ok (.iadd, 1) := by decide +kernel
theorem dL_law_1170 : decode cL_law 1170 = .ok (.iaload, 1) := by decide +kernel
theorem dL_law_1171 : decode cL_law 1171 = .ok (.aload_n 0, 1) := by decide +kernel
theorem dL_law_1172 : decode cL_law 1172 = .ok (.iload 4, 2) := by decide +kernel
theorem dL_law_1174 : decode cL_law 1174 = .ok (.iconst 3, 1) := by decide +kernel
theorem dL_law_1175 : decode cL_law 1175 = .ok (.iadd, 1) := by decide +kernel
theorem dL_law_1176 : decode cL_law 1176 = .ok (.iaload, 1) := by decide +kernel
theorem dL_law_1177 : decode cL_law 1177 = .ok (.invokevirtual 152, 3) := by decide +kernel
theorem dL_law_1180 : decode cL_law 1180 = .ok (.istore 6, 2) := by decide +kernel
theorem dL_law_1182 : decode cL_law 1182 = .ok (.aload_n 2, 1) := by decide +kernel
theorem dL_law_1183 : decode cL_law 1183 = .ok (.invokevirtual 97, 3) := by decide +kernel
theorem dL_law_1186 : decode cL_law 1186 = .ok (.iload 5, 2) := by decide +kernel
theorem dL_law_1188 : decode cL_law 1188 = .ok (.if_icmp .eq 5, 3) := by decide +kernel
theorem dL_law_1191 : decode cL_law 1191 = .ok (.iconst 0, 1) := by decide +kernel
theorem dL_law_1192 : decode cL_law 1192 = .ok (.ireturn, 1) := by decide +kernel
theorem dL_law_1193 : decode cL_law 1193 = .ok (.iload 5, 2) := by decide +kernel
theorem dL_law_1195 : decode cL_law 1195 = .ok (.ifCond .ne 22, 3) := by decide +kernel
theorem dL_law_1198 : decode cL_law 1198 = .ok (.aload_n 3, 1) := by decide +kernel
theorem dL_law_1199 : decode cL_law 1199 = .ok (.iconst 0, 1) := by decide +kernel
theorem dL_law_1200 : decode cL_law 1200 = .ok (.laload, 1) := by decide +kernel
theorem dL_law_1201 : decode cL_law 1201 = .ok (.iload 6, 2) := by decide +kernel
theorem dL_law_1203 : decode cL_law 1203 = .ok (.ifCond .eq 7, 3) := by decide +kernel
theorem dL_law_1206 : decode cL_law 1206 = .ok (.lconst 1, 1) := by decide +kernel
theorem dL_law_1207 : decode cL_law 1207 = .ok (.goto 4, 3) := by decide +kernel
theorem dL_law_1210 : decode cL_law 1210 = .ok (.lconst 0, 1) := by decide +kernel
theorem dL_law_1211 : decode cL_law 1211 = .ok (.lcmp, 1) := by decide +kernel
theorem dL_law_1212 : decode cL_law 1212 = .ok (.ifCond .eq 5, 3) := by decide +kernel
theorem dL_law_1215 : decode cL_law 1215 = .ok (.iconst 0, 1) := by decide +kernel
theorem dL_law_1216 : decode cL_law 1216 = .ok (.ireturn, 1) := by decide +kernel
theorem dL_law_1217 : decode cL_law 1217 = .ok (.goto 430, 3) := by decide +kernel
theorem dL_law_1220 : decode cL_law 1220 = .ok (.aload_n 1, 1) := by decide +kernel
theorem dL_law_1221 : decode cL_law 1221 = .ok (.aload_n 0, 1) := by decide +kernel
theorem dL_law_1222 : decode cL_law 1222 = .ok (.iload 4, 2) := by decide +kernel
theorem dL_law_1224 : decode cL_law 1224 = .ok (.iconst 1, 1) := by decide +kernel
theorem dL_law_1225 : decode cL_law 1225 = .ok (.iadd, 1) := by decide +kernel
theorem dL_law_1226 : decode cL_law 1226 = .ok (.iaload, 1) := by decide +kernel
theorem dL_law_1227 : decode cL_law 1227 = .ok (.aload_n 0, 1) := by decide +kernel
theorem dL_law_1228 : decode cL_law 1228 = .ok (.iload 4, 2) := by decide +kernel
theorem dL_law_1230 : decode cL_law 1230 = .ok (.iconst 2, 1) := by decide +kernel
theorem dL_law_1231 : decode cL_law 1231 = .ok (.iadd, 1) := by decide +kernel
theorem dL_law_1232 : decode cL_law 1232 = .ok (.iaload, 1) := by decide +kernel
theorem dL_law_1233 : decode cL_law 1233 = .ok (.aload_n 0, 1) := by decide +kernel
theorem dL_law_1234 : decode cL_law 1234 = .ok (.iload 4, 2) := by decide +kernel
theorem dL_law_1236 : decode cL_law 1236 = .ok (.iconst 3, 1) := by decide +kernel
theorem dL_law_1237 : decode cL_law 1237 = .ok (.iadd, 1) := by decide +kernel
theorem dL_law_1238 : decode cL_law 1238 = .ok (.iaload, 1) := by decide +kernel
theorem dL_law_1239 : decode cL_law 1239 = .ok (.aload_n 3, 1) := by decide +kernel
theorem dL_law_1240 : decode cL_law 1240 = .ok (.invokestatic 153, 3) := by decide +kernel
theorem dL_law_1243 : decode cL_law 1243 = .ok (.istore 5, 2) := by decide +kernel
theorem dL_law_1245 : decode cL_law 1245 = .ok (.aload_n 2, 1) := by decide +kernel
theorem dL_law_1246 : decode cL_law 1246 = .ok (.aload_n 0, 1) := by decide +kernel
theorem dL_law_1247 : decode cL_law 1247 = .ok (.iload 4, 2) := by decide +kernel
theorem dL_law_1249 : decode cL_law 1249 = .ok (.iconst 1, 1) := by decide +kernel
theorem dL_law_1250 : decode cL_law 1250 = .ok (.iadd, 1) := by decide +kernel
theorem dL_law_1251 : decode cL_law 1251 = .ok (.iaload, 1) := by decide +kernel
theorem dL_law_1252 : decode cL_law 1252 = .ok (.aload_n 0, 1) := by decide +kernel
theorem dL_law_1253 : decode cL_law 1253 = .ok (.iload 4, 2) := by decide +kernel
theorem dL_law_1255 : decode cL_law 1255 = .ok (.iconst 2, 1) := by decide +kernel
theorem dL_law_1256 : decode cL_law 1256 = .ok (.iadd, 1) := by decide +kernel
theorem dL_law_1257 : decode cL_law 1257 = .ok (.iaload, 1) := by decide +kernel
theorem dL_law_1258 : decode cL_law 1258 = .ok (.aload_n 0, 1) := by decide +kernel
theorem dL_law_1259 : decode cL_law 1259 = .ok (.iload 4, 2) := by decide +kernel
theorem dL_law_1261 : decode cL_law 1261 = .ok (.iconst 3, 1) := by decide +kernel
theorem dL_law_1262 : decode cL_law 1262 = .ok (.iadd, 1) := by decide +kernel
theorem dL_law_1263 : decode cL_law 1263 = .ok (.iaload, 1) := by decide +kernel
theorem dL_law_1264 : decode cL_law 1264 = .ok (.invokevirtual 155, 3) := by decide +kernel
theorem dL_law_1267 : decode cL_law 1267 = .ok (.istore 6, 2) := by decide +kernel
theorem dL_law_1269 : decode cL_law 1269 = .ok (.aload_n 2, 1) := by decide +kernel
theorem dL_law_1270 : decode cL_law 1270 = .ok (.invokevirtual 97, 3) := by decide +kernel
theorem dL_law_1273 : decode cL_law 1273 = .ok (.iload 5, 2) := by decide +kernel
theorem dL_law_1275 : decode cL_law 1275 = .ok (.if_icmp .eq 5, 3) := by decide +kernel
theorem dL_law_1278 : decode cL_law 1278 = .ok (.iconst 0, 1) := by decide +kernel
theorem dL_law_1279 : decode cL_law 1279 = .ok (.ireturn, 1) := by decide +kernel
theorem dL_law_1280 : decode cL_law 1280 = .ok (.iload 5, 2) := by decide +kernel
theorem dL_law_1282 : decode cL_law 1282 = .ok (.ifCond .ne 22, 3) := by decide +kernel
theorem dL_law_1285 : decode cL_law 1285 = .ok (.aload_n 3, 1) := by decide +kernel
theorem dL_law_1286 : decode cL_law 1286 = .ok (.iconst 0, 1) := by decide +kernel
theorem dL_law_1287 : decode cL_law 1287 = .ok (.laload, 1) := by decide +kernel
theorem dL_law_1288 : decode cL_law 1288 = .ok (.iload 6, 2) := by decide +kernel
theorem dL_law_1290 : decode cL_law 1290 = .ok (.ifCond .eq 7, 3) := by decide +kernel
theorem dL_law_1293 : decode cL_law 1293 = .ok (.lconst 1, 1) := by decide +kernel
theorem dL_law_1294 : decode cL_law 1294 = .ok (.goto 4, 3) := by decide +kernel
theorem dL_law_1297 : decode cL_law 1297 = .ok (.lconst 0, 1) := by decide +kernel
theorem dL_law_1298 : decode cL_law 1298 = .ok (.lcmp, 1) := by decide +kernel
theorem dL_law_1299 : decode cL_law 1299 = .ok (.ifCond .eq 5, 3) := by decide +kernel
theorem dL_law_1302 : decode cL_law 1302 = .ok (.iconst 0, 1) := by decide +kernel
theorem dL_law_1303 : decode cL_law 1303 = .ok (.ireturn, 1) := by decide +kernel
theorem dL_law_1304 : decode cL_law 1304 = .ok (.goto 343, 3) := by decide +kernel
theorem dL_law_1307 : decode cL_law 1307 = .ok (.aload_n 1, 1) := by decide +kernel
theorem dL_law_1308 : decode cL_law 1308 = .ok (.aload_n 0, 1) := by decide +kernel
theorem dL_law_1309 : decode cL_law 1309 = .ok (.iload 4, 2) := by decide +kernel
theorem dL_law_1311 : decode cL_law 1311 = .ok (.iconst 1, 1) := by decide +kernel
theorem dL_law_1312 : decode cL_law 1312 = .ok (.iadd, 1) := by decide +kernel
theorem dL_law_1313 : decode cL_law 1313 = .ok (.iaload, 1) := by decide +kernel
theorem dL_law_1314 : decode cL_law 1314 = .ok (.aload_n 0, 1) := by decide +kernel
theorem dL_law_1315 : decode cL_law 1315 = .ok (.iload 4, 2) := by decide +kernel
theorem dL_law_1317 : decode cL_law 1317 = .ok (.iconst 2, 1) := by decide +kernel
theorem dL_law_1318 : decode cL_law 1318 = .ok (.iadd, 1) := by decide +kernel
theorem dL_law_1319 : decode cL_law 1319 = .ok (.iaload, 1) := by decide +kernel
theorem dL_law_1320 : decode cL_law 1320 = .ok (.aload_n 3, 1) := by decide +kernel
theorem dL_law_1321 : decode cL_law 1321 = .ok (.invokestatic 156, 3) := by decide +kernel
theorem dL_law_1324 : decode cL_law 1324 = .ok (.istore 5, 2) := by decide +kernel
theorem dL_law_1326 : decode cL_law 1326 = .ok (.aload_n 2, 1) := by decide +kernel
theorem dL_law_1327 : decode cL_law 1327 = .ok (.aload_n 0, 1) := by decide +kernel
theorem dL_law_1328 : decode cL_law 1328 = .ok (.iload 4, 2) := by decide +kernel
theorem dL_law_1330 : decode cL_law 1330 = .ok (.iconst 1, 1) := by decide +kernel
theorem dL_law_1331 : decode cL_law 1331 = .ok (.iadd, 1) := by decide +kernel
theorem dL_law_1332 : decode cL_law 1332 = .ok (.iaload, 1) := by decide +kernel
theorem dL_law_1333 : decode cL_law 1333 = .ok (.aload_n 0, 1) := by decide +kernel
theorem dL_law_1334 : decode cL_law 1334 = .ok (.iload 4, 2) := by decide +kernel
theorem dL_law_1336 : decode cL_law 1336 = .ok (.iconst 2, 1) := by decide +kernel
theorem dL_law_1337 : decode cL_law 1337 = .ok (.iadd, 1) := by decide +kernel
theorem dL_law_1338 : decode cL_law 1338 = .ok (.iaload, 1) := by decide +kernel
theorem dL_law_1339 : decode cL_law 1339 = .ok (.invokevirtual 158, 3) := by decide +kernel
theorem dL_law_1342 : decode cL_law 1342 = .ok (.istore 6, 2) := by decide +kernel
theorem dL_law_1344 : decode cL_law 1344 = .ok (.aload_n 2, 1) := by decide +kernel
theorem dL_law_1345 : decode cL_law 1345 = .ok (.invokevirtual 97, 3) := by decide +kernel
theorem dL_law_1348 : decode cL_law 1348 = .ok (.iload 5, 2) := by decide +kernel
theorem dL_law_1350 : decode cL_law 1350 = .ok (.if_icmp .eq 5, 3) := by decide +kernel
theorem dL_law_1353 : decode cL_law 1353 = .ok (.iconst 0, 1) := by decide +kernel
theorem dL_law_1354 : decode cL_law 1354 = .ok (.ireturn, 1) := by decide +kernel
theorem dL_law_1355 : decode cL_law 1355 = .ok (.iload 5, 2) := by decide +kernel
theorem dL_law_1357 : decode cL_law 1357 = .ok (.ifCond .ne 15, 3) := by decide +kernel
theorem dL_law_1360 : decode cL_law 1360 = .ok (.aload_n 3, 1) := by decide +kernel
theorem dL_law_1361 : decode cL_law 1361 = .ok (.iconst 0, 1) := by decide +kernel
theorem dL_law_1362 : decode cL_law 1362 = .ok (.laload, 1) := by decide +kernel
theorem dL_law_1363 : decode cL_law 1363 = .ok (.iload 6, 2) := by decide +kernel
theorem dL_law_1365 : decode cL_law 1365 = .ok (.i2l, 1) := by decide +kernel
theorem dL_law_1366 : decode cL_law 1366 = .ok (.lcmp, 1) := by decide +kernel
theorem dL_law_1367 : decode cL_law 1367 = .ok (.ifCond .eq 5, 3) := by decide +kernel
theorem dL_law_1370 : decode cL_law 1370 = .ok (.iconst 0, 1) := by decide +kernel
theorem dL_law_1371 : decode cL_law 1371 = .ok (.ireturn, 1) := by decide +kernel
theorem dL_law_1372 : decode cL_law 1372 = .ok (.goto 275, 3) := by decide +kernel
theorem dL_law_1375 : decode cL_law 1375 = .ok (.aload_n 1, 1) := by decide +kernel
theorem dL_law_1376 : decode cL_law 1376 = .ok (.aload_n 0, 1) := by decide +kernel
theorem dL_law_1377 : decode cL_law 1377 = .ok (.iload 4, 2) := by decide +kernel
theorem dL_law_1379 : decode cL_law 1379 = .ok (.iconst 1, 1) := by decide +kernel
theorem dL_law_1380 : decode cL_law 1380 = .ok (.iadd, 1) := by decide +kernel
theorem dL_law_1381 : decode cL_law 1381 = .ok (.iaload, 1) := by decide +kernel
theorem dL_law_1382 : decode cL_law 1382 = .ok (.aload_n 0, 1) := by decide +kernel
theorem dL_law_1383 : decode cL_law 1383 = .ok (.iload 4, 2) := by decide +kernel
theorem dL_law_1385 : decode cL_law 1385 = .ok (.iconst 2, 1) := by decide +kernel
theorem dL_law_1386 : decode cL_law 1386 = .ok (.iadd, 1) := by decide +kernel
theorem dL_law_1387 : decode cL_law 1387 = .ok (.iaload, 1) := by decide +kernel
theorem dL_law_1388 : decode cL_law 1388 = .ok (.aload_n 3, 1) := by decide +kernel
theorem dL_law_1389 : decode cL_law 1389 = .ok (.invokestatic 159, 3) := by decide +kernel
theorem dL_law_1392 : decode cL_law 1392 = .ok (.istore 5, 2) := by decide +kernel
theorem dL_law_1394 : decode cL_law 1394 = .ok (.aload_n 2, 1) := by decide +kernel
theorem dL_law_1395 : decode cL_law 1395 = .ok (.aload_n 0, 1) := by decide +kernel
theorem dL_law_1396 : decode cL_law 1396 = .ok (.iload 4, 2) := by decide +kernel
theorem dL_law_1398 : decode cL_law 1398 = .ok (.iconst 1, 1) := by decide +kernel
theorem dL_law_1399 : decode cL_law 1399 = .ok (.iadd, 1) := by decide +kernel
theorem dL_law_1400 : decode cL_law 1400 = .ok (.iaload, 1) := by decide +kernel
theorem dL_law_1401 : decode cL_law 1401 = .ok (.aload_n 0, 1) := by decide +kernel
theorem dL_law_1402 : decode cL_law 1402 = .ok (.iload 4, 2) := by decide +kernel
theorem dL_law_1404 : decode cL_law 1404 = .ok (.iconst 2, 1) := by decide +kernel
theorem dL_law_1405 : decode cL_law 1405 = .ok (.iadd, 1) := by decide +kernel
theorem dL_law_1406 : decode cL_law 1406 = .ok (.iaload, 1) := by decide +kernel
theorem dL_law_1407 : decode cL_law 1407 = .ok (.invokevirtual 161, 3) := by decide +kernel
theorem dL_law_1410 : decode cL_law 1410 = .ok (.istore 6, 2) := by decide +kernel
theorem dL_law_1412 : decode cL_law 1412 = .ok (.aload_n 2, 1) := by decide +kernel
theorem dL_law_1413 : decode cL_law 1413 = .ok (.invokevirtual 97, 3) := by decide +kernel
theorem dL_law_1416 : decode cL_law 1416 = .ok (.iload 5, 2) := by decide +kernel
theorem dL_law_1418 : decode cL_law 1418 = .ok (.if_icmp .eq 5, 3) := by decide +kernel
theorem dL_law_1421 : decode cL_law 1421 = .ok (.iconst 0, 1) := by decide +kernel
theorem dL_law_1422 : decode cL_law 1422 = .ok (.ireturn, 1) := by decide +kernel
theorem dL_law_1423 : decode cL_law 1423 = .ok (.iload 5, 2) := by decide +kernel
theorem dL_law_1425 : decode cL_law 1425 = .ok (.ifCond .ne 15, 3) := by decide +kernel
theorem dL_law_1428 : decode cL_law 1428 = .ok (.aload_n 3, 1) := by decide +kernel
theorem dL_law_1429 : decode cL_law 1429 = .ok (.iconst 0, 1) := by decide +kernel
theorem dL_law_1430 : decode cL_law 1430 = .ok (.laload, 1) := by decide +kernel
theorem dL_law_1431 : decode cL_law 1431 = .ok (.iload 6, 2) := by decide +kernel
theorem dL_law_1433 : decode cL_law 1433 = .ok (.i2l, 1) := by decide +kernel
theorem dL_law_1434 : decode cL_law 1434 = .ok (.lcmp, 1) := by decide +kernel
theorem dL_law_1435 : decode cL_law 1435 = .ok (.ifCond .eq 5, 3) := by decide +kernel
theorem dL_law_1438 : decode cL_law 1438 = .ok (.iconst 0, 1) := by decide +kernel
theorem dL_law_1439 : decode cL_law 1439 = .ok (.ireturn, 1) := by decide +kernel
theorem dL_law_1440 : decode cL_law 1440 = .ok (.goto 207, 3) := by decide +kernel
theorem dL_law_1443 : decode cL_law 1443 = .ok (.aload_n 1, 1) := by decide +kernel
theorem dL_law_1444 : decode cL_law 1444 = .ok (.aload_n 0, 1) := by decide +kernel
theorem dL_law_1445 : decode cL_law 1445 = .ok (.iload 4, 2) := by decide +kernel
theorem dL_law_1447 : decode cL_law 1447 = .ok (.iconst 1, 1) := by decide +kernel
theorem dL_law_1448 : decode cL_law 1448 = .ok (.iadd, 1) := by decide +kernel
theorem dL_law_1449 : decode cL_law 1449 = .ok (.iaload, 1) := by decide +kernel
theorem dL_law_1450 : decode cL_law 1450 = .ok (.aload_n 0, 1) := by decide +kernel
theorem dL_law_1451 : decode cL_law 1451 = .ok (.iload 4, 2) := by decide +kernel
theorem dL_law_1453 : decode cL_law 1453 = .ok (.iconst 2, 1) := by decide +kernel
theorem dL_law_1454 : decode cL_law 1454 = .ok (.iadd, 1) := by decide +kernel
theorem dL_law_1455 : decode cL_law 1455 = .ok (.iaload, 1) := by decide +kernel
theorem dL_law_1456 : decode cL_law 1456 = .ok (.aload_n 0, 1) := by decide +kernel
theorem dL_law_1457 : decode cL_law 1457 = .ok (.iload 4, 2) := by decide +kernel
theorem dL_law_1459 : decode cL_law 1459 = .ok (.iconst 3, 1) := by decide +kernel
theorem dL_law_1460 : decode cL_law 1460 = .ok (.iadd, 1) := by decide +kernel
theorem dL_law_1461 : decode cL_law 1461 = .ok (.iaload, 1) := by decide +kernel
theorem dL_law_1462 : decode cL_law 1462 = .ok (.aload_n 3, 1) := by decide +kernel
theorem dL_law_1463 : decode cL_law 1463 = .ok (.invokestatic 162, 3) := by decide +kernel
theorem dL_law_1466 : decode cL_law 1466 = .ok (.istore 5, 2) := by decide +kernel
theorem dL_law_1468 : decode cL_law 1468 = .ok (.aload_n 2, 1) := by decide +kernel
theorem dL_law_1469 : decode cL_law 1469 = .ok (.aload_n 0, 1) := by decide +kernel
theorem dL_law_1470 : decode cL_law 1470 = .ok (.iload 4, 2) := by decide +kernel
theorem dL_law_1472 : decode cL_law 1472 = .ok (.iconst 1, 1) := by decide +kernel
theorem dL_law_1473 : decode cL_law 1473 = .ok (.iadd, 1) := by decide +kernel
theorem dL_law_1474 : decode cL_law 1474 = .ok (.iaload, 1) := by decide +kernel
theorem dL_law_1475 : decode cL_law 1475 = .ok (.aload_n 0, 1) := by decide +kernel
theorem dL_law_1476 : decode cL_law 1476 = .ok (.iload 4, 2) := by decide +kernel
theorem dL_law_1478 : decode cL_law 1478 = .ok (.iconst 2, 1) := by decide +kernel
theorem dL_law_1479 : decode cL_law 1479 = .ok (.iadd, 1) := by decide +kernel
theorem dL_law_1480 : decode cL_law 1480 = .ok (.iaload, 1) := by decide +kernel
theorem dL_law_1481 : decode cL_law 1481 = .ok (.aload_n 0, 1) := by decide +kernel
theorem dL_law_1482 : decode cL_law 1482 = .ok (.iload 4, 2) := by decide +kernel
theorem dL_law_1484 : decode cL_law 1484 = .ok (.iconst 3, 1) := by decide +kernel
theorem dL_law_1485 : decode cL_law 1485 = .ok (.iadd, 1) := by decide +kernel
theorem dL_law_1486 : decode cL_law 1486 = .ok (.iaload, 1) := by decide +kernel
theorem dL_law_1487 : decode cL_law 1487 = .ok (.invokevirtual 164, 3) := by decide +kernel
theorem dL_law_1490 : decode cL_law 1490 = .ok (.istore 6, 2) := by decide +kernel
theorem dL_law_1492 : decode cL_law 1492 = .ok (.aload_n 2, 1) := by decide +kernel
theorem dL_law_1493 : decode cL_law 1493 = .ok (.invokevirtual 97, 3) := by decide +kernel
theorem dL_law_1496 : decode cL_law 1496 = .ok (.iload 5, 2) := by decide +kernel
theorem dL_law_1498 : decode cL_law 1498 = .ok (.if_icmp .eq 5, 3) := by decide +kernel
theorem dL_law_1501 : decode cL_law 1501 = .ok (.iconst 0, 1) := by decide +kernel
theorem dL_law_1502 : decode cL_law 1502 = .ok (.ireturn, 1) := by decide +kernel
theorem dL_law_1503 : decode cL_law 1503 = .ok (.iload 5, 2) := by decide +kernel
theorem dL_law_1505 : decode cL_law 1505 = .ok (.ifCond .ne 15, 3) := by decide +kernel
theorem dL_law_1508 : decode cL_law 1508 = .ok (.aload_n 3, 1) := by decide +kernel
theorem dL_law_1509 : decode cL_law 1509 = .ok (.iconst 0, 1) := by decide +kernel
theorem dL_law_1510 : decode cL_law 1510 = .ok (.laload, 1) := by decide +kernel
theorem dL_law_1511 : decode cL_law 1511 = .ok (.iload 6, 2) := by decide +kernel
theorem dL_law_1513 : decode cL_law 1513 = .ok (.i2l, 1) := by decide +kernel
theorem dL_law_1514 : decode cL_law 1514 = .ok (.lcmp, 1) := by decide +kernel
theorem dL_law_1515 : decode cL_law 1515 = .ok (.ifCond .eq 5, 3) := by decide +kernel
theorem dL_law_1518 : decode cL_law 1518 = .ok (.iconst 0, 1) := by decide +kernel
theorem dL_law_1519 : decode cL_law 1519 = .ok (.ireturn, 1) := by decide +kernel
theorem dL_law_1520 : decode cL_law 1520 = .ok (.goto 127, 3) := by decide +kernel
theorem dL_law_1523 : decode cL_law 1523 = .ok (.aload_n 1, 1) := by decide +kernel
theorem dL_law_1524 : decode cL_law 1524 = .ok (.aload_n 0, 1) := by decide +kernel
theorem dL_law_1525 : decode cL_law 1525 = .ok (.iload 4, 2) := by decide +kernel
theorem dL_law_1527 : decode cL_law 1527 = .ok (.iconst 1, 1) := by decide +kernel
theorem dL_law_1528 : decode cL_law 1528 = .ok (.iadd, 1) := by decide +kernel
theorem dL_law_1529 : decode cL_law 1529 = .ok (.iaload, 1) := by decide +kernel
theorem dL_law_1530 : decode cL_law 1530 = .ok (.aload_n 3, 1) := by decide +kernel
theorem dL_law_1531 : decode cL_law 1531 = .ok (.invokestatic 165, 3) := by decide +kernel
theorem dL_law_1534 : decode cL_law 1534 = .ok (.istore 5, 2) := by decide +kernel
theorem dL_law_1536 : decode cL_law 1536 = .ok (.aload_n 2, 1) := by decide +kernel
theorem dL_law_1537 : decode cL_law 1537 = .ok (.aload_n 0, 1) := by decide +kernel
theorem dL_law_1538 : decode cL_law 1538 = .ok (.iload 4, 2) := by decide +kernel
theorem dL_law_1540 : decode cL_law 1540 = .ok (.iconst 1, 1) := by decide +kernel
theorem dL_law_1541 : decode cL_law 1541 = .ok (.iadd, 1) := by decide +kernel
theorem dL_law_1542 : decode cL_law 1542 = .ok (.iaload, 1) := by decide +kernel
theorem dL_law_1543 : decode cL_law 1543 = .ok (.invokevirtual 167, 3) := by decide +kernel
theorem dL_law_1546 : decode cL_law 1546 = .ok (.istore 6, 2) := by decide +kernel
theorem dL_law_1548 : decode cL_law 1548 = .ok (.aload_n 2, 1) := by decide +kernel
theorem dL_law_1549 : decode cL_law 1549 = .ok (.invokevirtual 97, 3) := by decide +kernel
theorem dL_law_1552 : decode cL_law 1552 = .ok (.iload 5, 2) := by decide +kernel
theorem dL_law_1554 : decode cL_law 1554 = .ok (.if_icmp .eq 5, 3) := by decide +kernel
theorem dL_law_1557 : decode cL_law 1557 = .ok (.iconst 0, 1) := by decide +kernel
theorem dL_law_1558 : decode cL_law 1558 = .ok (.ireturn, 1) := by decide +kernel
theorem dL_law_1559 : decode cL_law 1559 = .ok (.iload 5, 2) := by decide +kernel
theorem dL_law_1561 : decode cL_law 1561 = .ok (.ifCond .ne 15, 3) := by decide +kernel
theorem dL_law_1564 : decode cL_law 1564 = .ok (.aload_n 3, 1) := by decide +kernel
theorem dL_law_1565 : decode cL_law 1565 = .ok (.iconst 0, 1) := by decide +kernel
theorem dL_law_1566 : decode cL_law 1566 = .ok (.laload, 1) := by decide +kernel
theorem dL_law_1567 : decode cL_law 1567 = .ok (.iload 6, 2) := by decide +kernel
theorem dL_law_1569 : decode cL_law 1569 = .ok (.i2l, 1) := by decide +kernel
theorem dL_law_1570 : decode cL_law 1570 = .ok (.lcmp, 1) := by decide +kernel
theorem dL_law_1571 : decode cL_law 1571 = .ok (.ifCond .eq 5, 3) := by decide +kernel
theorem dL_law_1574 : decode cL_law 1574 = .ok (.iconst 0, 1) := by decide +kernel
theorem dL_law_1575 : decode cL_law 1575 = .ok (.ireturn, 1) := by decide +kernel
theorem dL_law_1576 : decode cL_law 1576 = .ok (.goto 71, 3) := by decide +kernel
theorem dL_law_1579 : decode cL_law 1579 = .ok (.aload_n 1, 1) := by decide +kernel
theorem dL_law_1580 : decode cL_law 1580 = .ok (.aload_n 0, 1) := by decide +kernel
theorem dL_law_1581 : decode cL_law 1581 = .ok (.iload 4, 2) := by decide +kernel
theorem dL_law_1583 : decode cL_law 1583 = .ok (.iconst 1, 1) := by decide +kernel
theorem dL_law_1584 : decode cL_law 1584 = .ok (.iadd, 1) := by decide +kernel
theorem dL_law_1585 : decode cL_law 1585 = .ok (.iaload, 1) := by decide +kernel
theorem dL_law_1586 : decode cL_law 1586 = .ok (.aload_n 0, 1) := by decide +kernel
theorem dL_law_1587 : decode cL_law 1587 = .ok (.iload 4, 2) := by decide +kernel
theorem dL_law_1589 : decode cL_law 1589 = .ok (.iconst 2, 1) := by decide +kernel
theorem dL_law_1590 : decode cL_law 1590 = .ok (.iadd, 1) := by decide +kernel
theorem dL_law_1591 : decode cL_law 1591 = .ok (.iaload, 1) := by decide +kernel
theorem dL_law_1592 : decode cL_law 1592 = .ok (.aload_n 3, 1) := by decide +kernel
theorem dL_law_1593 : decode cL_law 1593 = .ok (.invokestatic 168, 3) := by decide +kernel
theorem dL_law_1596 : decode cL_law 1596 = .ok (.istore 5, 2) := by decide +kernel
theorem dL_law_1598 : decode cL_law 1598 = .ok (.aload_n 2, 1) := by decide +kernel
theorem dL_law_1599 : decode cL_law 1599 = .ok (.aload_n 0, 1) := by decide +kernel
theorem dL_law_1600 : decode cL_law 1600 = .ok (.iload 4, 2) := by decide +kernel
theorem dL_law_1602 : decode cL_law 1602 = .ok (.iconst 1, 1) := by decide +kernel
theorem dL_law_1603 : decode cL_law 1603 = .ok (.iadd, 1) := by decide +kernel
theorem dL_law_1604 : decode cL_law 1604 = .ok (.iaload, 1) := by decide +kernel
theorem dL_law_1605 : decode cL_law 1605 = .ok (.aload_n 0, 1) := by decide +kernel
theorem dL_law_1606 : decode cL_law 1606 = .ok (.iload 4, 2) := by decide +kernel
theorem dL_law_1608 : decode cL_law 1608 = .ok (.iconst 2, 1) := by decide +kernel
theorem dL_law_1609 : decode cL_law 1609 = .ok (.iadd, 1) := by decide +kernel
theorem dL_law_1610 : decode cL_law 1610 = .ok (.iaload, 1) := by decide +kernel
theorem dL_law_1611 : decode cL_law 1611 = .ok (.invokevirtual 170, 3) := by decide +kernel
theorem dL_law_1614 : decode cL_law 1614 = .ok (.istore 6, 2) := by decide +kernel
theorem dL_law_1616 : decode cL_law 1616 = .ok (.aload_n 2, 1) := by decide +kernel
theorem dL_law_1617 : decode cL_law 1617 = .ok (.invokevirtual 97, 3) := by decide +kernel
theorem dL_law_1620 : decode cL_law 1620 = .ok (.iload 5, 2) := by decide +kernel
theorem dL_law_1622 : decode cL_law 1622 = .ok (.if_icmp .eq 5, 3) := by decide +kernel
theorem dL_law_1625 : decode cL_law 1625 = .ok (.iconst 0, 1) := by decide +kernel
theorem dL_law_1626 : decode cL_law 1626 = .ok (.ireturn, 1) := by decide +kernel
theorem dL_law_1627 : decode cL_law 1627 = .ok (.iload 5, 2) := by decide +kernel
theorem dL_law_1629 : decode cL_law 1629 = .ok (.ifCond .ne 15, 3) := by decide +kernel
theorem dL_law_1632 : decode cL_law 1632 = .ok (.aload_n 3, 1) := by decide +kernel
theorem dL_law_1633 : decode cL_law 1633 = .ok (.iconst 0, 1) := by decide +kernel
theorem dL_law_1634 : decode cL_law 1634 = .ok (.laload, 1) := by decide +kernel
theorem dL_law_1635 : decode cL_law 1635 = .ok (.iload 6, 2) := by decide +kernel
theorem dL_law_1637 : decode cL_law 1637 = .ok (.i2l, 1) := by decide +kernel
theorem dL_law_1638 : decode cL_law 1638 = .ok (.lcmp, 1) := by decide +kernel
theorem dL_law_1639 : decode cL_law 1639 = .ok (.ifCond .eq 5, 3) := by decide +kernel
theorem dL_law_1642 : decode cL_law 1642 = .ok (.iconst 0, 1) := by decide +kernel
theorem dL_law_1643 : decode cL_law 1643 = .ok (.ireturn, 1) := by decide +kernel
theorem dL_law_1644 : decode cL_law 1644 = .ok (.goto 3, 3) := by decide +kernel
theorem dL_law_1647 : decode cL_law 1647 = .ok (.iinc 4 6, 3) := by decide +kernel
theorem dL_law_1650 : decode cL_law 1650 = .ok (.goto (-1627), 3) := by decide +kernel
theorem dL_law_1653 : decode cL_law 1653 = .ok (.iconst 1, 1) := by decide +kernel
theorem dL_law_1654 : decode cL_law 1654 = .ok (.ireturn, 1) := by decide +kernel