theorem d_Md_times_64 : decode b_Md_times 64 = .ok (.ifCond .eq 10, 3) := by decide +kernel
theorem d_Md_times_67 : decode b_Md_times 67 = .ok (.aload_n 0, 1) := by decide +kernel
theorem d_Md_times_68 : decode b_Md_times 68 = .ok (.getfield 213, 3) := by decide +kernel
theorem d_Md_times_71 : decode b_Md_times 71 = .ok (.ifCond .ne 10, 3) := by decide +kernel
theorem d_Md_times_74 : decode b_Md_times 74 = .ok (.iload_n 2, 1) := by decide +kernel
theorem d_Md_times_75 : decode b_Md_times 75 = .ok (.iload_n 1, 1) := by decide +kernel
theorem d_Md_times_76 : decode b_Md_times 76 = .ok (.lconst 0, 1) := by decide +kernel
theorem d_Md_times_77 : decode b_Md_times 77 = .ok (.invokestatic 229, 3) := by decide +kernel
theorem d_Md_times_80 : decode b_Md_times 80 = .ok (.lreturn, 1) := by decide +kernel
theorem d_Md_times_81 : decode b_Md_times 81 = .ok (.lconst 0, 1) := by decide +kernel
theorem d_Md_times_82 : decode b_Md_times 82 = .ok (.lstore_n 3, 1) := by decide +kernel
theorem d_Md_times_83 : decode b_Md_times 83 = .ok (.aload_n 0, 1) := by decide +kernel
theorem d_Md_times_84 : decode b_Md_times 84 = .ok (.getfield 200, 3) := by decide +kernel
theorem d_Md_times_87 : decode b_Md_times 87 = .ok (.lstore 5, 2) := by decide +kernel
theorem d_Md_times_89 : decode b_Md_times 89 = .ok (.iconst 0, 1) := by decide +kernel
theorem d_Md_times_90 : decode b_Md_times 90 = .ok (.istore 7, 2) := by decide +kernel
theorem d_Md_times_92 : decode b_Md_times 92 = .ok (.iconst 0, 1) := by decide +kernel
theorem d_Md_times_93 : decode b_Md_times 93 = .ok (.istore 8, 2) := by decide +kernel
theorem d_Md_times_95 : decode b_Md_times 95 = .ok (.iload 8, 2) := by decide +kernel
theorem d_Md_times_97 : decode b_Md_times 97 = .ok (.bipush 53, 2) := by decide +kernel
theorem d_Md_times_99 : decode b_Md_times 99 = .ok (.if_icmp .ge 75, 3) := by decide +kernel
theorem d_Md_times_102 : decode b_Md_times 102 = .ok (.aload_n 0, 1) := by decide +kernel
theorem d_Md_times_103 : decode b_Md_times 103 = .ok (.getfield 219, 3) := by decide +kernel
theorem d_Md_times_106 : decode b_Md_times 106 = .ok (.iload 8, 2) := by decide +kernel
theorem d_Md_times_108 : decode b_Md_times 108 = .ok (.lshr, 1) := by decide +kernel
theorem d_Md_times_109 : decode b_Md_times 109 = .ok (.lconst 1, 1) := by decide +kernel
theorem d_Md_times_110 : decode b_Md_times 110 = .ok (.land, 1) := by decide +kernel
theorem d_Md_times_111 : decode b_Md_times 111 = .ok (.lconst 1, 1) := by decide +kernel
theorem d_Md_times_112 : decode b_Md_times 112 = .ok (.lcmp, 1) := by decide +kernel
theorem d_Md_times_113 : decode b_Md_times 113 = .ok (.ifCond .ne 8, 3) := by decide +kernel
theorem d_Md_times_116 : decode b_Md_times 116 = .ok (.lload_n 3, 1) := by decide +kernel
theorem d_Md_times_117 : decode b_Md_times 117 = .ok (.lload 5, 2) := by decide +kernel
theorem d_Md_times_119 : decode b_Md_times 119 = .ok (.ladd, 1) := by decide +kernel
theorem d_Md_times_120 : decode b_Md_times 120 = .ok (.lstore_n 3, 1) := by decide +kernel
theorem d_Md_times_121 : decode b_Md_times 121 = .ok (.iload 8, 2) := by decide +kernel
theorem d_Md_times_123 : decode b_Md_times 123 = .ok (.bipush 44, 2) := by decide +kernel
theorem d_Md_times_125 : decode b_Md_times 125 = .ok (.if_icmp .ge 30, 3) := by decide +kernel
theorem d_Md_times_128 : decode b_Md_times 128 = .ok (.iload 7, 2) := by decide +kernel
theorem d_Md_times_130 : decode b_Md_times 130 = .ok (.ifCond .ne 11, 3) := by decide +kernel
theorem d_Md_times_133 : decode b_Md_times 133 = .ok (.lload_n 3, 1) := by decide +kernel
theorem d_Md_times_134 : decode b_Md_times 134 = .ok (.lconst 1, 1) := by decide +kernel
theorem d_Md_times_135 : decode b_Md_times 135 = .ok (.land, 1) := by decide +kernel
theorem d_Md_times_136 : decode b_Md_times 136 = .ok (.lconst 1, 1) := by decide +kernel
theorem d_Md_times_137 : decode b_Md_times 137 = .ok (.lcmp, 1) := by decide +kernel
theorem d_Md_times_138 : decode b_Md_times 138 = .ok (.ifCond .ne 7, 3) := by decide +kernel
theorem d_Md_times_141 : decode b_Md_times 141 = .ok (.iconst 1, 1) := by decide +kernel
theorem d_Md_times_142 : decode b_Md_times 142 = .ok (.goto 4, 3) := by decide +kernel
theorem d_Md_times_145 : decode b_Md_times 145 = .ok (.iconst 0, 1) := by decide +kernel
theorem d_Md_times_146 : decode b_Md_times 146 = .ok (.istore 7, 2) := by decide +kernel
theorem d_Md_times_148 : decode b_Md_times 148 = .ok (.lload_n 3, 1) := by decide +kernel
theorem d_Md_times_149 : decode b_Md_times 149 = .ok (.iconst 1, 1) := by decide +kernel
theorem d_Md_times_150 : decode b_Md_times 150 = .ok (.lshr, 1) := by decide +kernel
theorem d_Md_times_151 : decode b_Md_times 151 = .ok (.lstore_n 3, 1) := by decide +kernel
theorem d_Md_times_152 : decode b_Md_times 152 = .ok (.goto 16, 3) := by decide +kernel
theorem d_Md_times_155 : decode b_Md_times 155 = .ok (.iload 8, 2) := by decide +kernel
theorem d_Md_times_157 : decode b_Md_times 157 = .ok (.bipush 52, 2) := by decide +kernel
theorem d_Md_times_159 : decode b_Md_times 159 = .ok (.if_icmp .ge 9, 3) := by decide +kernel
theorem d_Md_times_162 : decode b_Md_times 162 = .ok (.lload 5, 2) := by decide +kernel
theorem d_Md_times_164 : decode b_Md_times 164 = .ok (.iconst 1, 1) := by decide +kernel
theorem d_Md_times_165 : decode b_Md_times 165 = .ok (.lshl, 1) := by decide +kernel
theorem d_Md_times_166 : decode b_Md_times 166 = .ok (.lstore 5, 2) := by decide +kernel
theorem d_Md_times_168 : decode b_Md_times 168 = .ok (.iinc 8 1, 3) := by decide +kernel
theorem d_Md_times_171 : decode b_Md_times 171 = .ok (.goto (-76), 3) := by decide +kernel
theorem d_Md_times_174 : decode b_Md_times 174 = .ok (.iload_n 2, 1) := by decide +kernel
theorem d_Md_times_175 : decode b_Md_times 175 = .ok (.lload_n 3, 1) := by decide +kernel
theorem d_Md_times_176 : decode b_Md_times 176 = .ok (.aload_n 0, 1) := by decide +kernel
theorem d_Md_times_177 : decode b_Md_times 177 = .ok (.getfield 207, 3) := by decide +kernel
theorem d_Md_times_180 : decode b_Md_times 180 = .ok (.aload_n 0, 1) := by decide +kernel
theorem d_Md_times_181 : decode b_Md_times 181 = .ok (.getfield 222, 3) := by decide +kernel
theorem d_Md_times_184 : decode b_Md_times 184 = .ok (.iadd, 1) := by decide +kernel
theorem d_Md_times_185 : decode b_Md_times 185 = .ok (.bipush 44, 2) := by decide +kernel
theorem d_Md_times_187 : decode b_Md_times 187 = .ok (.iadd, 1) := by decide +kernel
theorem d_Md_times_188 : decode b_Md_times 188 = .ok (.iload 7, 2) := by decide +kernel
theorem d_Md_times_190 : decode b_Md_times 190 = .ok (.iload_n 1, 1) := by decide +kernel
theorem d_Md_times_191 : decode b_Md_times 191 = .ok (.invokestatic 246, 3) := by decide +kernel
theorem d_Md_times_194 : decode b_Md_times 194 = .ok (.lreturn, 1) := by decide +kernel
theorem d_Md_by_0 : decode b_Md_by 0 = .ok (.aload_n 0, 1) := by decide +kernel
theorem d_Md_by_1 : decode b_Md_by 1 = .ok (.getfield 197, 3) := by decide +kernel
theorem d_Md_by_4 : decode b_Md_by 4 = .ok (.aload_n 0, 1) := by decide +kernel
theorem d_Md_by_5 : decode b_Md_by 5 = .ok (.getfield 216, 3) := by decide +kernel
theorem d_Md_by_8 : decode b_Md_by 8 = .ok (.if_icmp .eq 7, 3) := by decide +kernel
theorem d_Md_by_11 : decode b_Md_by 11 = .ok (.iconst 1, 1) := by decide +kernel
theorem d_Md_by_12 : decode b_Md_by 12 = .ok (.goto 4, 3) := by decide +kernel
theorem d_Md_by_15 : decode b_Md_by 15 = .ok (.iconst 0, 1) := by decide +kernel
theorem d_Md_by_16 : decode b_Md_by 16 = .ok (.istore_n 2, 1) := by decide +kernel
theorem d_Md_by_17 : decode b_Md_by 17 = .ok (.aload_n 0, 1) := by decide +kernel
theorem d_Md_by_18 : decode b_Md_by 18 = .ok (.getfield 210, 3) := by decide +kernel
theorem d_Md_by_21 : decode b_Md_by 21 = .ok (.iconst 2, 1) := by decide +kernel
theorem d_Md_by_22 : decode b_Md_by 22 = .ok (.if_icmp .ne 24, 3) := by decide +kernel
theorem d_Md_by_25 : decode b_Md_by 25 = .ok (.aload_n 0, 1) := by decide +kernel
theorem d_Md_by_26 : decode b_Md_by 26 = .ok (.getfield 213, 3) := by decide +kernel
theorem d_Md_by_29 : decode b_Md_by 29 = .ok (.iconst 2, 1) := by decide +kernel
theorem d_Md_by_30 : decode b_Md_by 30 = .ok (.if_icmp .ne 10, 3) := by decide +kernel
theorem d_Md_by_33 : decode b_Md_by 33 = .ok (.iload_n 1, 1) := by decide +kernel
theorem d_Md_by_34 : decode b_Md_by 34 = .ok (.invokestatic 297, 3) := by decide +kernel
theorem d_Md_by_37 : decode b_Md_by 37 = .ok (.goto 8, 3) := by decide +kernel
theorem d_Md_by_40 : decode b_Md_by 40 = .ok (.iload_n 2, 1) := by decide +kernel
theorem d_Md_by_41 : decode b_Md_by 41 = .ok (.iload_n 1, 1) := by decide +kernel
theorem d_Md_by_42 : decode b_Md_by 42 = .ok (.invokestatic 235, 3) := by decide +kernel
theorem d_Md_by_45 : decode b_Md_by 45 = .ok (.lreturn, 1) := by decide +kernel
theorem d_Md_by_46 : decode b_Md_by 46 = .ok (.aload_n 0, 1) := by decide +kernel
theorem d_Md_by_47 : decode b_Md_by 47 = .ok (.getfield 213, 3) := by decide +kernel
theorem d_Md_by_50 : decode b_Md_by 50 = .ok (.iconst 2, 1) := by decide +kernel
theorem d_Md_by_51 : decode b_Md_by 51 = .ok (.if_icmp .ne 10, 3) := by decide +kernel
theorem d_Md_by_54 : decode b_Md_by 54 = .ok (.iload_n 2, 1) := by decide +kernel
theorem d_Md_by_55 : decode b_Md_by 55 = .ok (.iload_n 1, 1) := by decide +kernel
theorem d_Md_by_56 : decode b_Md_by 56 = .ok (.lconst 0, 1) := by decide +kernel
theorem d_Md_by_57 : decode b_Md_by 57 = .ok (.invokestatic 229, 3) := by decide +kernel
theorem d_Md_by_60 : decode b_Md_by 60 = .ok (.lreturn, 1) := by decide +kernel
theorem d_Md_by_61 : decode b_Md_by 61 = .ok (.aload_n 0, 1) := by decide +kernel
theorem d_Md_by_62 : decode b_Md_by 62 = .ok (.getfield 213, 3) := by decide +kernel
theorem d_Md_by_65 : decode b_Md_by 65 = .ok (.ifCond .ne 23, 3) := by decide +kernel
theorem d_Md_by_68 : decode b_Md_by 68 = .ok (.aload_n 0, 1) := by decide +kernel
theorem d_Md_by_69 : decode b_Md_by 69 = .ok (.getfield 210, 3) := by decide +kernel
theorem d_Md_by_72 : decode b_Md_by 72 = .ok (.ifCond .ne 10, 3) := by decide +kernel
theorem d_Md_by_75 : decode b_Md_by 75 = .ok (.iload_n 1, 1) := by decide +kernel
theorem d_Md_by_76 : decode b_Md_by 76 = .ok (.invokestatic 297, 3) := by decide +kernel
theorem d_Md_by_79 : decode b_Md_by 79 = .ok (.goto 8, 3) := by decide +kernel
theorem d_Md_by_82 : decode b_Md_by 82 = .ok (.iload_n 2, 1) := by decide +kernel
theorem d_Md_by_83 : decode b_Md_by 83 = .ok (.iload_n 1, 1) := by decide +kernel
theorem d_Md_by_84 : decode b_Md_by 84 = .ok (.invokestatic 235, 3) := by decide +kernel
theorem d_Md_by_87 : decode b_Md_by 87 = .ok (.lreturn, 1) := by decide +kernel
theorem d_Md_by_88 : decode b_Md_by 88 = .ok (.aload_n 0, 1) := by decide +kernel
theorem d_Md_by_89 : decode b_Md_by 89 = .ok (.getfield 210, 3) := by decide +kernel
theorem d_Md_by_92 : decode b_Md_by 92 = .ok (.ifCond .ne 10, 3) := by decide +kernel
theorem d_Md_by_95 : decode b_Md_by 95 = .ok (.iload_n 2, 1) := by decide +kernel
theorem d_Md_by_96 : decode b_Md_by 96 = .ok (.iload_n 1, 1) := by decide +kernel
theorem d_Md_by_97 : decode b_Md_by 97 = .ok (.lconst 0, 1) := by decide +kernel
theorem d_Md_by_98 : decode b_Md_by 98 = .ok (.invokestatic 229, 3) := by decide +kernel
theorem d_Md_by_101 : decode b_Md_by 101 = .ok (.lreturn, 1) := by decide +kernel
theorem d_Md_by_102 : decode b_Md_by 102 = .ok (.lconst 0, 1) := by decide +kernel
theorem d_Md_by_103 : decode b_Md_by 103 = .ok (.lstore_n 3, 1) := by decide +kernel
theorem d_Md_by_104 : decode b_Md_by 104 = .ok (.aload_n 0, 1) := by decide +kernel
theorem d_Md_by_105 : decode b_Md_by 105 = .ok (.getfield 200, 3) := by decide +kernel
theorem d_Md_by_108 : decode b_Md_by 108 = .ok (.lstore 5, 2) := by decide +kernel
theorem d_Md_by_110 : decode b_Md_by 110 = .ok (.iconst 0, 1) := by decide +kernel
theorem d_Md_by_111 : decode b_Md_by 111 = .ok (.istore 7, 2) := by decide +kernel
theorem d_Md_by_113 : decode b_Md_by 113 = .ok (.iload 7, 2) := by decide +kernel
theorem d_Md_by_115 : decode b_Md_by 115 = .ok (.bipush 60, 2) := by decide +kernel
theorem d_Md_by_117 : decode b_Md_by 117 = .ok (.if_icmp .ge 42, 3) := by decide +kernel
theorem d_Md_by_120 : decode b_Md_by 120 = .ok (.lload_n 3, 1) := by decide +kernel
theorem d_Md_by_121 : decode b_Md_by 121 = .ok (.iconst 1, 1) := by decide +kernel
theorem d_Md_by_122 : decode b_Md_by 122 = .ok (.lshl, 1) := by decide +kernel
theorem d_Md_by_123 : decode b_Md_by 123 = .ok (.lstore_n 3, 1) := by decide +kernel
theorem d_Md_by_124 : decode b_Md_by 124 = .ok (.lload 5, 2) := by decide +kernel
theorem d_Md_by_126 : decode b_Md_by 126 = .ok (.aload_n 0, 1) := by decide +kernel
theorem d_Md_by_127 : decode b_Md_by 127 = .ok (.getfield 219, 3) := by decide +kernel
theorem d_Md_by_130 : decode b_Md_by 130 = .ok (.lcmp, 1) := by decide +kernel
theorem d_Md_by_131 : decode b_Md_by 131 = .ok (.ifCond .lt 16, 3) := by decide +kernel
theorem d_Md_by_134 : decode b_Md_by 134 = .ok (.lload 5, 2) := by decide +kernel
theorem d_Md_by_136 : decode b_Md_by 136 = .ok (.aload_n 0, 1) := by decide +kernel
theorem d_Md_by_137 : decode b_Md_by 137 = .ok (.getfield 219, 3) := by decide +kernel
theorem d_Md_by_140 : decode b_Md_by 140 = .ok (.lsub, 1) := by decide +kernel
theorem d_Md_by_141 : decode b_Md_by 141 = .ok (.lstore 5, 2) := by decide +kernel
theorem d_Md_by_143 : decode b_Md_by 143 = .ok (.lload_n 3, 1) := by decide +kernel
theorem d_Md_by_144 : decode b_Md_by 144 = .ok (.lconst 1, 1) := by decide +kernel
theorem d_Md_by_145 : decode b_Md_by 145 = .ok (.lor, 1) := by decide +kernel
theorem d_Md_by_146 : decode b_Md_by 146 = .ok (.lstore_n 3, 1) := by decide +kernel
theorem d_Md_by_147 : decode b_Md_by 147 = .ok (.lload 5, 2) := by decide +kernel
theorem d_Md_by_149 : decode b_Md_by 149 = .ok (.iconst 1, 1) := by decide +kernel
theorem d_Md_by_150 : decode b_Md_by 150 = .ok (.lshl, 1) := by decide +kernel
theorem d_Md_by_151 : decode b_Md_by 151 = .ok (.lstore 5, 2) := by decide +kernel
theorem d_Md_by_153 : decode b_Md_by 153 = .ok (.iinc 7 1, 3) := by decide +kernel
theorem d_Md_by_156 : decode b_Md_by 156 = .ok (.goto (-43), 3) := by decide +kernel
theorem d_Md_by_159 : decode b_Md_by 159 = .ok (.iload_n 2, 1) := by decide +kernel
theorem d_Md_by_160 : decode b_Md_by 160 = .ok (.lload_n 3, 1) := by decide +kernel
theorem d_Md_by_161 : decode b_Md_by 161 = .ok (.aload_n 0, 1) := by decide +kernel
theorem d_Md_by_162 : decode b_Md_by 162 = .ok (.getfield 207, 3) := by decide +kernel
theorem d_Md_by_165 : decode b_Md_by 165 = .ok (.aload_n 0, 1) := by decide +kernel
theorem d_Md_by_166 : decode b_Md_by 166 = .ok (.getfield 222, 3) := by decide +kernel
theorem d_Md_by_169 : decode b_Md_by 169 = .ok (.isub, 1) := by decide +kernel
theorem d_Md_by_170 : decode b_Md_by 170 = .ok (.bipush 59, 2) := by decide +kernel
theorem d_Md_by_172 : decode b_Md_by 172 = .ok (.isub, 1) := by decide +kernel
theorem d_Md_by_173 : decode b_Md_by 173 = .ok (.lload 5, 2) := by decide +kernel
theorem d_Md_by_175 : decode b_Md_by 175 = .ok (.lconst 0, 1) := by decide +kernel
theorem d_Md_by_176 : decode b_Md_by 176 = .ok (.lcmp, 1) := by decide +kernel
theorem d_Md_by_177 : decode b_Md_by 177 = .ok (.ifCond .le 7, 3) := by decide +kernel
theorem d_Md_by_180 : decode b_Md_by 180 = .ok (.iconst 1, 1) := by decide +kernel
theorem d_Md_by_181 : decode b_Md_by 181 = .ok (.goto 4, 3) := by decide +kernel
theorem d_Md_by_184 : decode b_Md_by 184 = .ok (.iconst 0, 1) := by decide +kernel
theorem d_Md_by_185 : decode b_Md_by 185 = .ok (.iload_n 1, 1) := by decide +kernel
theorem d_Md_by_186 : decode b_Md_by 186 = .ok (.invokestatic 246, 3) := by decide +kernel
theorem d_Md_by_189 : decode b_Md_by 189 = .ok (.lreturn, 1) := by decide +kernel
theorem d_Md_two_0 : decode b_Md_two 0 = .ok (.aload_n 0, 1) := by decide +kernel
theorem d_Md_two_1 : decode b_Md_two 1 = .ok (.lload 4, 2) := by decide +kernel
theorem d_Md_two_3 : decode b_Md_two 3 = .ok (.iload 6, 2) := by decide +kernel
theorem d_Md_two_5 : decode b_Md_two 5 = .ok (.invokevirtual 282, 3) := by decide +kernel
theorem d_Md_two_8 : decode b_Md_two 8 = .ok (.aload_n 0, 1) := by decide +kernel
theorem d_Md_two_9 : decode b_Md_two 9 = .ok (.invokevirtual 286, 3) := by decide +kernel
theorem d_Md_two_12 : decode b_Md_two 12 = .ok (.aload_n 0, 1) := by decide +kernel
theorem d_Md_two_13 : decode b_Md_two 13 = .ok (.lload_n 2, 1) := by decide +kernel
theorem d_Md_two_14 : decode b_Md_two 14 = .ok (.iload 6, 2) := by decide +kernel
theorem d_Md_two_16 : decode b_Md_two 16 = .ok (.invokevirtual 282, 3) := by decide +kernel
theorem d_Md_two_19 : decode b_Md_two 19 = .ok (.aload_n 0, 1) := by decide +kernel
theorem d_Md_two_20 : decode b_Md_two 20 = .ok (.getfield 210, 3) := by decide +kernel
theorem d_Md_two_23 : decode b_Md_two 23 = .ok (.iconst 3, 1) := by decide +kernel
theorem d_Md_two_24 : decode b_Md_two 24 = .ok (.if_icmp .eq 11, 3) := by decide +kernel
theorem d_Md_two_27 : decode b_Md_two 27 = .ok (.aload_n 0, 1) := by decide +kernel
theorem d_Md_two_28 : decode b_Md_two 28 = .ok (.getfield 213, 3) := by decide +kernel
theorem d_Md_two_31 : decode b_Md_two 31 = .ok (.iconst 3, 1) := by decide +kernel
theorem d_Md_two_32 : decode b_Md_two 32 = .ok (.if_icmp .ne 9, 3) := by decide +kernel
theorem d_Md_two_35 : decode b_Md_two 35 = .ok (.iload 6, 2) := by decide +kernel
theorem d_Md_two_37 : decode b_Md_two 37 = .ok (.invokestatic 297, 3) := by decide +kernel
theorem d_Md_two_40 : decode b_Md_two 40 = .ok (.lreturn, 1) := by decide +kernel
theorem d_Md_two_41 : decode b_Md_two 41 = .ok (.iload_n 1, 1) := by decide +kernel
theorem d_Md_two_42 : decode b_Md_two 42 = .ok (.iconst 1, 1) := by decide +kernel
theorem d_Md_two_43 : decode b_Md_two 43 = .ok (.if_icmp .ne 19, 3) := by decide +kernel
theorem d_Md_two_46 : decode b_Md_two 46 = .ok (.aload_n 0, 1) := by decide +kernel
theorem d_Md_two_47 : decode b_Md_two 47 = .ok (.aload_n 0, 1) := by decide +kernel
theorem d_Md_two_48 : decode b_Md_two 48 = .ok (.getfield 216, 3) := by decide +kernel
theorem d_Md_two_51 : decode b_Md_two 51 = .ok (.ifCond .ne 7, 3) := by decide +kernel
theorem d_Md_two_54 : decode b_Md_two 54 = .ok (.iconst 1, 1) := by decide +kernel
theorem d_Md_two_55 : decode b_Md_two 55 = .ok (.goto 4, 3) := by decide +kernel
theorem d_Md_two_58 : decode b_Md_two 58 = .ok (.iconst 0, 1) := by decide +kernel
theorem d_Md_two_59 : decode b_Md_two 59 = .ok (.putfield 216, 3) := by decide +kernel
theorem d_Md_two_62 : decode b_Md_two 62 = .ok (.iload_n 1, 1) := by decide +kernel
theorem d_Md_two_63 : decode b_Md_two 63 = .ok (.iconst 2, 1) := by decide +kernel
theorem d_Md_two_64 : decode b_Md_two 64 = .ok (.if_icmp .ge 13, 3) := by decide +kernel
theorem d_Md_two_67 : decode b_Md_two 67 = .ok (.aload_n 0, 1) := by decide +kernel
theorem d_Md_two_68 : decode b_Md_two 68 = .ok (.lload_n 2, 1) := by decide +kernel
theorem d_Md_two_69 : decode b_Md_two 69 = .ok (.iload 6, 2) := by decide +kernel
theorem d_Md_two_71 : decode b_Md_two 71 = .ok (.invokevirtual 307, 3) := by decide +kernel
theorem d_Md_two_74 : decode b_Md_two 74 = .ok (.goto 23, 3) := by decide +kernel
theorem d_Md_two_77 : decode b_Md_two 77 = .ok (.iload_n 1, 1) := by decide +kernel
theorem d_Md_two_78 : decode b_Md_two 78 = .ok (.iconst 2, 1) := by decide +kernel
theorem d_Md_two_79 : decode b_Md_two 79 = .ok (.if_icmp .ne 12, 3) := by decide +kernel
theorem d_Md_two_82 : decode b_Md_two 82 = .ok (.aload_n 0, 1) := by decide +kernel
theorem d_Md_two_83 : decode b_Md_two 83 = .ok (.iload 6, 2) := by decide +kernel
theorem d_Md_two_85 : decode b_Md_two 85 = .ok (.invokevirtual 309, 3) := by decide +kernel
theorem d_Md_two_88 : decode b_Md_two 88 = .ok (.goto 9, 3) := by decide +kernel
theorem d_Md_two_91 : decode b_Md_two 91 = .ok (.aload_n 0, 1) := by decide +kernel
theorem d_Md_two_92 : decode b_Md_two 92 = .ok (.iload 6, 2) := by decide +kernel
theorem d_Md_two_94 : decode b_Md_two 94 = .ok (.invokevirtual 312, 3) := by decide +kernel
theorem d_Md_two_97 : decode b_Md_two 97 = .ok (.lreturn, 1) := by decide +kernel
theorem d_Md_put_IZJV_0 : decode b_Md_put_IZJV 0 = .ok (.aload_n 0, 1) := by decide +kernel
theorem d_Md_put_IZJV_1 : decode b_Md_put_IZJV 1 = .ok (.getfield 63, 3) := by decide +kernel
theorem d_Md_put_IZJV_4 : decode b_Md_put_IZJV 4 = .ok (.ifCond .le 4, 3) := by decide +kernel
theorem d_Md_put_IZJV_7 : decode b_Md_put_IZJV 7 = .ok (.return_, 1) := by decide +kernel
theorem d_Md_put_IZJV_8 : decode b_Md_put_IZJV 8 = .ok (.aload_n 0, 1) := by decide +kernel
theorem d_Md_put_IZJV_9 : decode b_Md_put_IZJV 9 = .ok (.getfield 14, 3) := by decide +kernel
theorem d_Md_put_IZJV_12 : decode b_Md_put_IZJV 12 = .ok (.bipush 34, 2) := by decide +kernel
theorem d_Md_put_IZJV_14 : decode b_Md_put_IZJV 14 = .ok (.iload_n 1, 1) := by decide +kernel
theorem d_Md_put_IZJV_15 : decode b_Md_put_IZJV 15 = .ok (.iadd, 1) := by decide +kernel
theorem d_Md_put_IZJV_16 : decode b_Md_put_IZJV 16 = .ok (.lload_n 3, 1) := by decide +kernel
theorem d_Md_put_IZJV_17 : decode b_Md_put_IZJV 17 = .ok (.l2i, 1) := by decide +kernel
theorem d_Md_put_IZJV_18 : decode b_Md_put_IZJV 18 = .ok (.iastore, 1) := by decide +kernel
theorem d_Md_put_IZJV_19 : decode b_Md_put_IZJV 19 = .ok (.iload_n 2, 1) := by decide +kernel
theorem d_Md_put_IZJV_20 : decode b_Md_put_IZJV 20 = .ok (.ifCond .eq 17, 3) := by decide +kernel
theorem d_Md_put_IZJV_23 : decode b_Md_put_IZJV 23 = .ok (.aload_n 0, 1) := by decide +kernel
theorem d_Md_put_IZJV_24 : decode b_Md_put_IZJV 24 = .ok (.getfield 14, 3) := by decide +kernel
theorem d_Md_put_IZJV_27 : decode b_Md_put_IZJV 27 = .ok (.bipush 35, 2) := by decide +kernel
theorem d_Md_put_IZJV_29 : decode b_Md_put_IZJV 29 = .ok (.iload_n 1, 1) := by decide +kernel
theorem d_Md_put_IZJV_30 : decode b_Md_put_IZJV 30 = .ok (.iadd, 1) := by decide +kernel
theorem d_Md_put_IZJV_31 : decode b_Md_put_IZJV 31 = .ok (.lload_n 3, 1) := by decide +kernel
theorem d_Md_put_IZJV_32 : decode b_Md_put_IZJV 32 = .ok (.bipush 32, 2) := by decide +kernel
theorem d_Md_put_IZJV_34 : decode b_Md_put_IZJV 34 = .ok (.lshr, 1) := by decide +kernel
theorem d_Md_put_IZJV_35 : decode b_Md_put_IZJV 35 = .ok (.l2i, 1) := by decide +kernel
theorem d_Md_put_IZJV_36 : decode b_Md_put_IZJV 36 = .ok (.iastore, 1) := by decide +kernel
theorem d_Md_put_IZJV_37 : decode b_Md_put_IZJV 37 = .ok (.return_, 1) := by decide +kernel
theorem d_Md_wordOf_0 : decode b_Md_wordOf 0 = .ok (.aload_n 0, 1) := by decide +kernel
theorem d_Md_wordOf_1 : decode b_Md_wordOf 1 = .ok (.lload_n 2, 1) := by decide +kernel
theorem d_Md_wordOf_2 : decode b_Md_wordOf 2 = .ok (.iload 4, 2) := by decide +kernel
theorem d_Md_wordOf_4 : decode b_Md_wordOf 4 = .ok (.invokevirtual 282, 3) := by decide +kernel
theorem d_Md_wordOf_7 : decode b_Md_wordOf 7 = .ok (.aload_n 0, 1) := by decide +kernel
theorem d_Md_wordOf_8 : decode b_Md_wordOf 8 = .ok (.getfield 210, 3) := by decide +kernel
theorem d_Md_wordOf_11 : decode b_Md_wordOf 11 = .ok (.ifCond .ne 5, 3) := by decide +kernel
theorem d_Md_wordOf_14 : decode b_Md_wordOf 14 = .ok (.iconst 0, 1) := by decide +kernel
theorem d_Md_wordOf_15 : decode b_Md_wordOf 15 = .ok (.ireturn, 1) := by decide +kernel
theorem d_Md_wordOf_16 : decode b_Md_wordOf 16 = .ok (.aload_n 0, 1) := by decide +kernel
theorem d_Md_wordOf_17 : decode b_Md_wordOf 17 = .ok (.getfield 210, 3) := by decide +kernel
theorem d_Md_wordOf_20 : decode b_Md_wordOf 20 = .ok (.iconst 1, 1) := by decide +kernel
theorem d_Md_wordOf_21 : decode b_Md_wordOf 21 = .ok (.if_icmp .ne 12, 3) := by decide +kernel
theorem d_Md_wordOf_24 : decode b_Md_wordOf 24 = .ok (.aload_n 0, 1) := by decide +kernel
theorem d_Md_wordOf_25 : decode b_Md_wordOf 25 = .ok (.getfield 207, 3) := by decide +kernel
theorem d_Md_wordOf_28 : decode b_Md_wordOf 28 = .ok (.bipush (-21), 2) := by decide +kernel
theorem d_Md_wordOf_30 : decode b_Md_wordOf 30 = .ok (.if_icmp .le 7, 3) := by decide +kernel
theorem d_Md_wordOf_33 : decode b_Md_wordOf 33 = .ok (.ldc_w 318, 3) := by decide +kernel
theorem d_Md_wordOf_36 : decode b_Md_wordOf 36 = .ok (.ireturn, 1) := by decide +kernel
theorem d_Md_wordOf_37 : decode b_Md_wordOf 37 = .ok (.aload_n 0, 1) := by decide +kernel
theorem d_Md_wordOf_38 : decode b_Md_wordOf 38 = .ok (.getfield 207, 3) := by decide +kernel
theorem d_Md_wordOf_41 : decode b_Md_wordOf 41 = .ok (.ineg, 1) := by decide +kernel
theorem d_Md_wordOf_42 : decode b_Md_wordOf 42 = .ok (.istore 5, 2) := by decide +kernel
theorem d_Md_wordOf_44 : decode b_Md_wordOf 44 = .ok (.iload 5, 2) := by decide +kernel
theorem d_Md_wordOf_46 : decode b_Md_wordOf 46 = .ok (.bipush 62, 2) := by decide +kernel
theorem d_Md_wordOf_48 : decode b_Md_wordOf 48 = .ok (.if_icmp .le 7, 3) := by decide +kernel
theorem d_Md_wordOf_51 : decode b_Md_wordOf 51 = .ok (.lconst 0, 1) := by decide +kernel
theorem d_Md_wordOf_52 : decode b_Md_wordOf 52 = .ok (.goto 10, 3) := by decide +kernel
theorem d_Md_wordOf_55 : decode b_Md_wordOf 55 = .ok (.aload_n 0, 1) := by decide +kernel
theorem d_Md_wordOf_56 : decode b_Md_wordOf 56 = .ok (.getfield 200, 3) := by decide +kernel
theorem d_Md_wordOf_59 : decode b_Md_wordOf 59 = .ok (.iload 5, 2) := by decide +kernel
theorem d_Md_wordOf_61 : decode b_Md_wordOf 61 = .ok (.lshr, 1) := by decide +kernel
theorem d_Md_wordOf_62 : decode b_Md_wordOf 62 = .ok (.lstore 6, 2) := by decide +kernel
theorem d_Md_wordOf_64 : decode b_Md_wordOf 64 = .ok (.iload 5, 2) := by decide +kernel
theorem d_Md_wordOf_66 : decode b_Md_wordOf 66 = .ok (.bipush 62, 2) := by decide +kernel
theorem d_Md_wordOf_68 : decode b_Md_wordOf 68 = .ok (.if_icmp .gt 19, 3) := by decide +kernel
theorem d_Md_wordOf_71 : decode b_Md_wordOf 71 = .ok (.aload_n 0, 1) := by decide +kernel
theorem d_Md_wordOf_72 : decode b_Md_wordOf 72 = .ok (.getfield 200, 3) := by decide +kernel
theorem d_Md_wordOf_75 : decode b_Md_wordOf 75 = .ok (.lconst 1, 1) := by decide +kernel
theorem d_Md_wordOf_76 : decode b_Md_wordOf 76 = .ok (.iload 5, 2) := by decide +kernel
theorem d_Md_wordOf_78 : decode b_Md_wordOf 78 = .ok (.lshl, 1) := by decide +kernel
theorem d_Md_wordOf_79 : decode b_Md_wordOf 79 = .ok (.lconst 1, 1) := by decide +kernel
theorem d_Md_wordOf_80 : decode b_Md_wordOf 80 = .ok (.lsub, 1) := by decide +kernel
theorem d_Md_wordOf_81 : decode b_Md_wordOf 81 = .ok (.land, 1) := by decide +kernel
theorem d_Md_wordOf_82 : decode b_Md_wordOf 82 = .ok (.lconst 0, 1) := by decide +kernel
theorem d_Md_wordOf_83 : decode b_Md_wordOf 83 = .ok (.lcmp, 1) := by decide +kernel
theorem d_Md_wordOf_84 : decode b_Md_wordOf 84 = .ok (.ifCond .eq 7, 3) := by decide +kernel
theorem d_Md_wordOf_87 : decode b_Md_wordOf 87 = .ok (.iconst 1, 1) := by decide +kernel
theorem d_Md_wordOf_88 : decode b_Md_wordOf 88 = .ok (.goto 4, 3) := by decide +kernel
theorem d_Md_wordOf_91 : decode b_Md_wordOf 91 = .ok (.iconst 0, 1) := by decide +kernel
theorem d_Md_wordOf_92 : decode b_Md_wordOf 92 = .ok (.istore 8, 2) := by decide +kernel
theorem d_Md_wordOf_94 : decode b_Md_wordOf 94 = .ok (.iload 5, 2) := by decide +kernel
theorem d_Md_wordOf_96 : decode b_Md_wordOf 96 = .ok (.bipush 62, 2) := by decide +kernel
theorem d_Md_wordOf_98 : decode b_Md_wordOf 98 = .ok (.if_icmp .le 7, 3) := by decide +kernel
theorem d_Md_wordOf_101 : decode b_Md_wordOf 101 = .ok (.lconst 0, 1) := by decide +kernel
theorem d_Md_wordOf_102 : decode b_Md_wordOf 102 = .ok (.goto 9, 3) := by decide +kernel
theorem d_Md_wordOf_105 : decode b_Md_wordOf 105 = .ok (.lconst 1, 1) := by decide +kernel
theorem d_Md_wordOf_106 : decode b_Md_wordOf 106 = .ok (.iload 5, 2) := by decide +kernel
theorem d_Md_wordOf_108 : decode b_Md_wordOf 108 = .ok (.iconst 1, 1) := by decide +kernel
theorem d_Md_wordOf_109 : decode b_Md_wordOf 109 = .ok (.isub, 1) := by decide +kernel
theorem d_Md_wordOf_110 : decode b_Md_wordOf 110 = .ok (.lshl, 1) := by decide +kernel
theorem d_Md_wordOf_111 : decode b_Md_wordOf 111 = .ok (.lstore 9, 2) := by decide +kernel
theorem d_Md_wordOf_113 : decode b_Md_wordOf 113 = .ok (.iload 5, 2) := by decide +kernel
theorem d_Md_wordOf_115 : decode b_Md_wordOf 115 = .ok (.bipush 62, 2) := by decide +kernel
theorem d_Md_wordOf_117 : decode b_Md_wordOf 117 = .ok (.if_icmp .le 7, 3) := by decide +kernel
theorem d_Md_wordOf_120 : decode b_Md_wordOf 120 = .ok (.lconst 0, 1) := by decide +kernel
theorem d_Md_wordOf_121 : decode b_Md_wordOf 121 = .ok (.goto 14, 3) := by decide +kernel
theorem d_Md_wordOf_124 : decode b_Md_wordOf 124 = .ok (.aload_n 0, 1) := by decide +kernel
theorem d_Md_wordOf_125 : decode b_Md_wordOf 125 = .ok (.getfield 200, 3) := by decide +kernel
theorem d_Md_wordOf_128 : decode b_Md_wordOf 128 = .ok (.lconst 1, 1) := by decide +kernel
theorem d_Md_wordOf_129 : decode b_Md_wordOf 129 = .ok (.iload 5, 2) := by decide +kernel
theorem d_Md_wordOf_131 : decode b_Md_wordOf 131 = .ok (.lshl, 1) := by decide +kernel
theorem d_Md_wordOf_132 : decode b_Md_wordOf 132 = .ok (.lconst 1, 1) := by decide +kernel
theorem d_Md_wordOf_133 : decode b_Md_wordOf 133 = .ok (.lsub, 1) := by decide +kernel
theorem d_Md_wordOf_134 : decode b_Md_wordOf 134 = .ok (.land, 1) := by decide +kernel
theorem d_Md_wordOf_135 : decode b_Md_wordOf 135 = .ok (.lstore 11, 2) := by decide +kernel
theorem d_Md_wordOf_137 : decode b_Md_wordOf 137 = .ok (.iload_n 1, 1) := by decide +kernel
theorem d_Md_wordOf_138 : decode b_Md_wordOf 138 = .ok (.bipush 13, 2) := by decide +kernel
theorem d_Md_wordOf_140 : decode b_Md_wordOf 140 = .ok (.if_icmp .ne 7, 3) := by decide +kernel
theorem d_Md_wordOf_143 : decode b_Md_wordOf 143 = .ok (.iconst 0, 1) := by decide +kernel
theorem d_Md_wordOf_144 : decode b_Md_wordOf 144 = .ok (.goto 92, 3) := by decide +kernel
theorem d_Md_wordOf_147 : decode b_Md_wordOf 147 = .ok (.iload_n 1, 1) := by decide +kernel
theorem d_Md_wordOf_148 : decode b_Md_wordOf 148 = .ok (.bipush 14, 2) := by decide +kernel
theorem d_Md_wordOf_150 : decode b_Md_wordOf 150 = .ok (.if_icmp .ne 23, 3) := by decide +kernel
theorem d_Md_wordOf_153 : decode b_Md_wordOf 153 = .ok (.iload 8, 2) := by decide +kernel
theorem d_Md_wordOf_155 : decode b_Md_wordOf 155 = .ok (.ifCond .eq 14, 3) := by decide +kernel
theorem d_Md_wordOf_158 : decode b_Md_wordOf 158 = .ok (.aload_n 0, 1) := by decide +kernel
theorem d_Md_wordOf_159 : decode b_Md_wordOf 159 = .ok (.getfield 197, 3) := by decide +kernel
theorem d_Md_wordOf_162 : decode b_Md_wordOf 162 = .ok (.ifCond .ne 7, 3) := by decide +kernel
theorem d_Md_wordOf_165 : decode b_Md_wordOf 165 = .ok (.iconst 1, 1) := by decide +kernel
theorem d_Md_wordOf_166 : decode b_Md_wordOf 166 = .ok (.goto 70, 3) := by decide +kernel
theorem d_Md_wordOf_169 : decode b_Md_wordOf 169 = .ok (.iconst 0, 1) := by decide +kernel
theorem d_Md_wordOf_170 : decode b_Md_wordOf 170 = .ok (.goto 66, 3) := by decide +kernel
theorem d_Md_wordOf_173 : decode b_Md_wordOf 173 = .ok (.iload_n 1, 1) := by decide +kernel
theorem d_Md_wordOf_174 : decode b_Md_wordOf 174 = .ok (.bipush 15, 2) := by decide +kernel
theorem d_Md_wordOf_176 : decode b_Md_wordOf 176 = .ok (.if_icmp .ne 23, 3) := by decide +kernel
theorem d_Md_wordOf_179 : decode b_Md_wordOf 179 = .ok (.iload 8, 2) := by decide +kernel
theorem d_Md_wordOf_181 : decode b_Md_wordOf 181 = .ok (.ifCond .eq 14, 3) := by decide +kernel
theorem d_Md_wordOf_184 : decode b_Md_wordOf 184 = .ok (.aload_n 0, 1) := by decide +kernel
theorem d_Md_wordOf_185 : decode b_Md_wordOf 185 = .ok (.getfield 197, 3) := by decide +kernel
theorem d_Md_wordOf_188 : decode b_Md_wordOf 188 = .ok (.ifCond .eq 7, 3) := by decide +kernel
theorem d_Md_wordOf_191 : decode b_Md_wordOf 191 = .ok (.iconst 1, 1) := by decide +kernel
theorem d_Md_wordOf_192 : decode b_Md_wordOf 192 = .ok (.goto 44, 3) := by decide +kernel
theorem d_Md_wordOf_195 : decode b_Md_wordOf 195 = .ok (.iconst 0, 1) := by decide +kernel
theorem d_Md_wordOf_196 : decode b_Md_wordOf 196 = .ok (.goto 40, 3) := by decide +kernel
theorem d_Md_wordOf_199 : decode b_Md_wordOf 199 = .ok (.iload 5, 2) := by decide +kernel
theorem d_Md_wordOf_201 : decode b_Md_wordOf 201 = .ok (.bipush 62, 2) := by decide +kernel
theorem d_Md_wordOf_203 : decode b_Md_wordOf 203 = .ok (.if_icmp .gt 32, 3) := by decide +kernel
theorem d_Md_wordOf_206 : decode b_Md_wordOf 206 = .ok (.lload 11, 2) := by decide +kernel
theorem d_Md_wordOf_208 : decode b_Md_wordOf 208 = .ok (.lload 9, 2) := by decide +kernel
theorem d_Md_wordOf_210 : decode b_Md_wordOf 210 = .ok (.lcmp, 1) := by decide +kernel
theorem d_Md_wordOf_211 : decode b_Md_wordOf 211 = .ok (.ifCond .gt 20, 3) := by decide +kernel
theorem d_Md_wordOf_214 : decode b_Md_wordOf 214 = .ok (.lload 11, 2) := by decide +kernel
theorem d_Md_wordOf_216 : decode b_Md_wordOf 216 = .ok (.lload 9, 2) := by decide +kernel
theorem d_Md_wordOf_218 : decode b_Md_wordOf 218 = .ok (.lcmp, 1) := by decide +kernel
theorem d_Md_wordOf_219 : decode b_Md_wordOf 219 = .ok (.ifCond .ne 16, 3) := by decide +kernel
theorem d_Md_wordOf_222 : decode b_Md_wordOf 222 = .ok (.lload 6, 2) := by decide +kernel
theorem d_Md_wordOf_224 : decode b_Md_wordOf 224 = .ok (.lconst 1, 1) := by decide +kernel
theorem d_Md_wordOf_225 : decode b_Md_wordOf 225 = .ok (.land, 1) := by decide +kernel
theorem d_Md_wordOf_226 : decode b_Md_wordOf 226 = .ok (.lconst 1, 1) := by decide +kernel
theorem d_Md_wordOf_227 : decode b_Md_wordOf 227 = .ok (.lcmp, 1) := by decide +kernel
theorem d_Md_wordOf_228 : decode b_Md_wordOf 228 = .ok (.ifCond .ne 7, 3) := by decide +kernel
theorem d_Md_wordOf_231 : decode b_Md_wordOf 231 = .ok (.iconst 1, 1) := by decide +kernel
theorem d_Md_wordOf_232 : decode b_Md_wordOf 232 = .ok (.goto 4, 3) := by decide +kernel
theorem d_Md_wordOf_235 : decode b_Md_wordOf 235 = .ok (.iconst 0, 1) := by decide +kernel
theorem d_Md_wordOf_236 : decode b_Md_wordOf 236 = .ok (.istore 13, 2) := by decide +kernel
theorem d_Md_wordOf_238 : decode b_Md_wordOf 238 = .ok (.iload 13, 2) := by decide +kernel
theorem d_Md_wordOf_240 : decode b_Md_wordOf 240 = .ok (.ifCond .eq 9, 3) := by decide +kernel
theorem d_Md_wordOf_243 : decode b_Md_wordOf 243 = .ok (.lload 6, 2) := by decide +kernel
theorem d_Md_wordOf_245 : decode b_Md_wordOf 245 = .ok (.lconst 1, 1) := by decide +kernel
theorem d_Md_wordOf_246 : decode b_Md_wordOf 246 = .ok (.ladd, 1) := by decide +kernel
theorem d_Md_wordOf_247 : decode b_Md_wordOf 247 = .ok (.lstore 6, 2) := by decide +kernel
theorem d_Md_wordOf_249 : decode b_Md_wordOf 249 = .ok (.aload_n 0, 1) := by decide +kernel
theorem d_Md_wordOf_250 : decode b_Md_wordOf 250 = .ok (.getfield 197, 3) := by decide +kernel
theorem d_Md_wordOf_253 : decode b_Md_wordOf 253 = .ok (.ifCond .eq 9, 3) := by decide +kernel
theorem d_Md_wordOf_256 : decode b_Md_wordOf 256 = .ok (.lload 6, 2) := by decide +kernel
theorem d_Md_wordOf_258 : decode b_Md_wordOf 258 = .ok (.lneg, 1) := by decide +kernel
theorem d_Md_wordOf_259 : decode b_Md_wordOf 259 = .ok (.goto 5, 3) := by decide +kernel
theorem d_Md_wordOf_262 : decode b_Md_wordOf 262 = .ok (.lload 6, 2) := by decide +kernel
theorem d_Md_wordOf_264 : decode b_Md_wordOf 264 = .ok (.lstore 14, 2) := by decide +kernel
theorem d_Md_wordOf_266 : decode b_Md_wordOf 266 = .ok (.lload 14, 2) := by decide +kernel
theorem d_Md_wordOf_268 : decode b_Md_wordOf 268 = .ok (.lload 14, 2) := by decide +kernel
theorem d_Md_wordOf_270 : decode b_Md_wordOf 270 = .ok (.l2i, 1) := by decide +kernel
theorem d_Md_wordOf_271 : decode b_Md_wordOf 271 = .ok (.i2l, 1) := by decide +kernel
theorem d_Md_wordOf_272 : decode b_Md_wordOf 272 = .ok (.lcmp, 1) := by decide +kernel
theorem d_Md_wordOf_273 : decode b_Md_wordOf 273 = .ok (.ifCond .ne 9, 3) := by decide +kernel
theorem d_Md_wordOf_276 : decode b_Md_wordOf 276 = .ok (.lload 14, 2) := by decide +kernel
theorem d_Md_wordOf_278 : decode b_Md_wordOf 278 = .ok (.l2i, 1) := by decide +kernel
theorem d_Md_wordOf_279 : decode b_Md_wordOf 279 = .ok (.goto 6, 3) := by decide +kernel
theorem d_Md_wordOf_282 : decode b_Md_wordOf 282 = .ok (.ldc_w 318, 3) := by decide +kernel
theorem d_Md_wordOf_285 : decode b_Md_wordOf 285 = .ok (.ireturn, 1) := by decide +kernel
theorem d_Md_changed_0 : decode b_Md_changed 0 = .ok (.aload_n 0, 1) := by decide +kernel
theorem d_Md_changed_1 : decode b_Md_changed 1 = .ok (.lload_n 1, 1) := by decide +kernel
theorem d_Md_changed_2 : decode b_Md_changed 2 = .ok (.iload_n 3, 1) := by decide +kernel
theorem d_Md_changed_3 : decode b_Md_changed 3 = .ok (.invokevirtual 282, 3) := by decide +kernel
theorem d_Md_changed_6 : decode b_Md_changed 6 = .ok (.aload_n 0, 1) := by decide +kernel
theorem d_Md_changed_7 : decode b_Md_changed 7 = .ok (.getfield 210, 3) := by decide +kernel
theorem d_Md_changed_10 : decode b_Md_changed 10 = .ok (.iconst 3, 1) := by decide +kernel
theorem d_Md_changed_11 : decode b_Md_changed 11 = .ok (.if_icmp .ne 16, 3) := by decide +kernel
theorem d_Md_changed_14 : decode b_Md_changed 14 = .ok (.iload_n 3, 1) := by decide +kernel
theorem d_Md_changed_15 : decode b_Md_changed 15 = .ok (.ifCond .ne 7, 3) := by decide +kernel
theorem d_Md_changed_18 : decode b_Md_changed 18 = .ok (.iconst 1, 1) := by decide +kernel
theorem d_Md_changed_19 : decode b_Md_changed 19 = .ok (.goto 4, 3) := by decide +kernel
theorem d_Md_changed_22 : decode b_Md_changed 22 = .ok (.iconst 0, 1) := by decide +kernel
theorem d_Md_changed_23 : decode b_Md_changed 23 = .ok (.invokestatic 297, 3) := by decide +kernel
theorem d_Md_changed_26 : decode b_Md_changed 26 = .ok (.lreturn, 1) := by decide +kernel
theorem d_Md_changed_27 : decode b_Md_changed 27 = .ok (.aload_n 0, 1) := by decide +kernel
theorem d_Md_changed_28 : decode b_Md_changed 28 = .ok (.getfield 210, 3) := by decide +kernel
theorem d_Md_changed_31 : decode b_Md_changed 31 = .ok (.iconst 2, 1) := by decide +kernel
theorem d_Md_changed_32 : decode b_Md_changed 32 = .ok (.if_icmp .ne 20, 3) := by decide +kernel
theorem d_Md_changed_35 : decode b_Md_changed 35 = .ok (.aload_n 0, 1) := by decide +kernel
theorem d_Md_changed_36 : decode b_Md_changed 36 = .ok (.getfield 197, 3) := by decide +kernel
theorem d_Md_changed_39 : decode b_Md_changed 39 = .ok (.iload_n 3, 1) := by decide +kernel
theorem d_Md_changed_40 : decode b_Md_changed 40 = .ok (.ifCond .ne 7, 3) := by decide +kernel
theorem d_Md_changed_43 : decode b_Md_changed 43 = .ok (.iconst 1, 1) := by decide +kernel
theorem d_Md_changed_44 : decode b_Md_changed 44 = .ok (.goto 4, 3) := by decide +kernel
theorem d_Md_changed_47 : decode b_Md_changed 47 = .ok (.iconst 0, 1) := by decide +kernel
theorem d_Md_changed_48 : decode b_Md_changed 48 = .ok (.invokestatic 235, 3) := by decide +kernel
theorem d_Md_changed_51 : decode b_Md_changed 51 = .ok (.lreturn, 1) := by decide +kernel
theorem d_Md_changed_52 : decode b_Md_changed 52 = .ok (.aload_n 0, 1) := by decide +kernel
theorem d_Md_changed_53 : decode b_Md_changed 53 = .ok (.getfield 210, 3) := by decide +kernel
theorem d_Md_changed_56 : decode b_Md_changed 56 = .ok (.ifCond .ne 23, 3) := by decide +kernel
theorem d_Md_changed_59 : decode b_Md_changed 59 = .ok (.aload_n 0, 1) := by decide +kernel
theorem d_Md_changed_60 : decode b_Md_changed 60 = .ok (.getfield 197, 3) := by decide +kernel
theorem d_Md_changed_63 : decode b_Md_changed 63 = .ok (.iload_n 3, 1) := by decide +kernel
theorem d_Md_changed_64 : decode b_Md_changed 64 = .ok (.ifCond .ne 7, 3) := by decide +kernel
theorem d_Md_changed_67 : decode b_Md_changed 67 = .ok (.iconst 1, 1) := by decide +kernel
theorem d_Md_changed_68 : decode b_Md_changed 68 = .ok (.goto 4, 3) := by decide +kernel
theorem d_Md_changed_71 : decode b_Md_changed 71 = .ok (.iconst 0, 1) := by decide +kernel
theorem d_Md_changed_72 : decode b_Md_changed 72 = .ok (.lconst 0, 1) := by decide +kernel
theorem d_Md_changed_73 : decode b_Md_changed 73 = .ok (.invokestatic 229, 3) := by decide +kernel
theorem d_Md_changed_76 : decode b_Md_changed 76 = .ok (.goto 28, 3) := by decide +kernel
theorem d_Md_changed_79 : decode b_Md_changed 79 = .ok (.aload_n 0, 1) := by decide +kernel
theorem d_Md_changed_80 : decode b_Md_changed 80 = .ok (.getfield 197, 3) := by decide +kernel
theorem d_Md_changed_83 : decode b_Md_changed 83 = .ok (.aload_n 0, 1) := by decide +kernel
theorem d_Md_changed_84 : decode b_Md_changed 84 = .ok (.getfield 200, 3) := by decide +kernel
theorem d_Md_changed_87 : decode b_Md_changed 87 = .ok (.aload_n 0, 1) := by decide +kernel
theorem d_Md_changed_88 : decode b_Md_changed 88 = .ok (.getfield 207, 3) := by decide +kernel
theorem d_Md_changed_91 : decode b_Md_changed 91 = .ok (.iconst 0, 1) := by decide +kernel
theorem d_Md_changed_92 : decode b_Md_changed 92 = .ok (.iload_n 3, 1) := by decide +kernel
theorem d_Md_changed_93 : decode b_Md_changed 93 = .ok (.ifCond .ne 7, 3) := by decide +kernel
theorem d_Md_changed_96 : decode b_Md_changed 96 = .ok (.iconst 1, 1) := by decide +kernel
theorem d_Md_changed_97 : decode b_Md_changed 97 = .ok (.goto 4, 3) := by decide +kernel
theorem d_Md_changed_100 : decode b_Md_changed 100 = .ok (.iconst 0, 1) := by decide +kernel
theorem d_Md_changed_101 : decode b_Md_changed 101 = .ok (.invokestatic 246, 3) := by decide +kernel
theorem d_Md_changed_104 : decode b_Md_changed 104 = .ok (.lreturn, 1) := by decide +kernel
theorem d_Md_root_0 : decode b_Md_root 0 = .ok (.aload_n 0, 1) := by decide +kernel
theorem d_Md_root_1 : decode b_Md_root 1 = .ok (.getfield 210, 3) := by decide +kernel
theorem d_Md_root_4 : decode b_Md_root 4 = .ok (.ifCond .ne 5, 3) := by decide +kernel
theorem d_Md_root_7 : decode b_Md_root 7 = .ok (.lload_n 1, 1) := by decide +kernel
theorem d_Md_root_8 : decode b_Md_root 8 = .ok (.lreturn, 1) := by decide +kernel
theorem d_Md_root_9 : decode b_Md_root 9 = .ok (.aload_n 0, 1) := by decide +kernel
theorem d_Md_root_10 : decode b_Md_root 10 = .ok (.getfield 197, 3) := by decide +kernel
theorem d_Md_root_13 : decode b_Md_root 13 = .ok (.ifCond .eq 8, 3) := by decide +kernel
theorem d_Md_root_16 : decode b_Md_root 16 = .ok (.iload_n 3, 1) := by decide +kernel
theorem d_Md_root_17 : decode b_Md_root 17 = .ok (.invokestatic 297, 3) := by decide +kernel
theorem d_Md_root_20 : decode b_Md_root 20 = .ok (.lreturn, 1) := by decide +kernel
theorem d_Md_root_21 : decode b_Md_root 21 = .ok (.aload_n 0, 1) := by decide +kernel
theorem d_Md_root_22 : decode b_Md_root 22 = .ok (.getfield 210, 3) := by decide +kernel
theorem d_Md_root_25 : decode b_Md_root 25 = .ok (.iconst 2, 1) := by decide +kernel
theorem d_Md_root_26 : decode b_Md_root 26 = .ok (.if_icmp .ne 5, 3) := by decide +kernel
theorem d_Md_root_29 : decode b_Md_root 29 = .ok (.lload_n 1, 1) := by decide +kernel
theorem d_Md_root_30 : decode b_Md_root 30 = .ok (.lreturn, 1) := by decide +kernel
theorem d_Md_root_31 : decode b_Md_root 31 = .ok (.aload_n 0, 1) := by decide +kernel
theorem d_Md_root_32 : decode b_Md_root 32 = .ok (.getfield 200, 3) := by decide +kernel
theorem d_Md_root_35 : decode b_Md_root 35 = .ok (.lstore 4, 2) := by decide +kernel
theorem d_Md_root_37 : decode b_Md_root 37 = .ok (.aload_n 0, 1) := by decide +kernel
theorem d_Md_root_38 : decode b_Md_root 38 = .ok (.getfield 207, 3) := by decide +kernel
theorem d_Md_root_41 : decode b_Md_root 41 = .ok (.istore 6, 2) := by decide +kernel
theorem d_Md_root_43 : decode b_Md_root 43 = .ok (.iload 6, 2) := by decide +kernel
theorem d_Md_root_45 : decode b_Md_root 45 = .ok (.iconst 1, 1) := by decide +kernel
theorem d_Md_root_46 : decode b_Md_root 46 = .ok (.iand, 1) := by decide +kernel
theorem d_Md_root_47 : decode b_Md_root 47 = .ok (.ifCond .eq 12, 3) := by decide +kernel
theorem d_Md_root_50 : decode b_Md_root 50 = .ok (.lload 4, 2) := by decide +kernel
theorem d_Md_root_52 : decode b_Md_root 52 = .ok (.iconst 1, 1) := by decide +kernel
theorem d_Md_root_53 : decode b_Md_root 53 = .ok (.lshl, 1) := by decide +kernel
theorem d_Md_root_54 : decode b_Md_root 54 = .ok (.lstore 4, 2) := by decide +kernel
theorem d_Md_root_56 : decode b_Md_root 56 = .ok (.iinc 6 (-1), 3) := by decide +kernel
theorem d_Md_root_59 : decode b_Md_root 59 = .ok (.lconst 0, 1) := by decide +kernel
theorem d_Md_root_60 : decode b_Md_root 60 = .ok (.lstore 7, 2) := by decide +kernel
theorem d_Md_root_62 : decode b_Md_root 62 = .ok (.lconst 0, 1) := by decide +kernel
theorem d_Md_root_63 : decode b_Md_root 63 = .ok (.lstore 9, 2) := by decide +kernel
theorem d_Md_root_65 : decode b_Md_root 65 = .ok (.iconst 0, 1) := by decide +kernel
theorem d_Md_root_66 : decode b_Md_root 66 = .ok (.istore 11, 2) := by decide +kernel
theorem d_Md_root_68 : decode b_Md_root 68 = .ok (.iload 11, 2) := by decide +kernel
theorem d_Md_root_70 : decode b_Md_root 70 = .ok (.bipush 58, 2) := by decide +kernel
theorem d_Md_root_72 : decode b_Md_root 72 = .ok (.if_icmp .ge 78, 3) := by decide +kernel
theorem d_Md_root_75 : decode b_Md_root 75 = .ok (.bipush 54, 2) := by decide +kernel
theorem d_Md_root_77 : decode b_Md_root 77 = .ok (.iconst 2, 1) := by decide +kernel
theorem d_Md_root_78 : decode b_Md_root 78 = .ok (.iload 11, 2) := by decide +kernel
theorem d_Md_root_80 : decode b_Md_root 80 = .ok (.imul, 1) := by decide +kernel
theorem d_Md_root_81 : decode b_Md_root 81 = .ok (.isub, 1) := by decide +kernel
theorem d_Md_root_82 : decode b_Md_root 82 = .ok (.istore 12, 2) := by decide +kernel
theorem d_Md_root_84 : decode b_Md_root 84 = .ok (.lload 9, 2) := by decide +kernel
theorem d_Md_root_86 : decode b_Md_root 86 = .ok (.iconst 2, 1) := by decide +kernel
theorem d_Md_root_87 : decode b_Md_root 87 = .ok (.lshl, 1) := by decide +kernel
theorem d_Md_root_88 : decode b_Md_root 88 = .ok (.iload 12, 2) := by decide +kernel
theorem d_Md_root_90 : decode b_Md_root 90 = .ok (.ifCond .lt 15, 3) := by decide +kernel
theorem d_Md_root_93 : decode b_Md_root 93 = .ok (.lload 4, 2) := by decide +kernel
theorem d_Md_root_95 : decode b_Md_root 95 = .ok (.iload 12, 2) := by decide +kernel
theorem d_Md_root_97 : decode b_Md_root 97 = .ok (.lshr, 1) := by decide +kernel
theorem d_Md_root_98 : decode b_Md_root 98 = .ok (.ldc2_w 305, 3) := by decide +kernel
theorem d_Md_root_101 : decode b_Md_root 101 = .ok (.land, 1) := by decide +kernel
theorem d_Md_root_102 : decode b_Md_root 102 = .ok (.goto 4, 3) := by decide +kernel
theorem d_Md_root_105 : decode b_Md_root 105 = .ok (.lconst 0, 1) := by decide +kernel
theorem d_Md_root_106 : decode b_Md_root 106 = .ok (.lor, 1) := by decide +kernel
theorem d_Md_root_107 : decode b_Md_root 107 = .ok (.lstore 9, 2) := by decide +kernel
theorem d_Md_root_109 : decode b_Md_root 109 = .ok (.lload 7, 2) := by decide +kernel
theorem d_Md_root_111 : decode b_Md_root 111 = .ok (.iconst 2, 1) := by decide +kernel
theorem d_Md_root_112 : decode b_Md_root 112 = .ok (.lshl, 1) := by decide +kernel
theorem d_Md_root_113 : decode b_Md_root 113 = .ok (.lconst 1, 1) := by decide +kernel
theorem d_Md_root_114 : decode b_Md_root 114 = .ok (.lor, 1) := by decide +kernel
theorem d_Md_root_115 : decode b_Md_root 115 = .ok (.lstore 13, 2) := by decide +kernel
theorem d_Md_root_117 : decode b_Md_root 117 = .ok (.lload 7, 2) := by decide +kernel
theorem d_Md_root_119 : decode b_Md_root 119 = .ok (.iconst 1, 1) := by decide +kernel
theorem d_Md_root_120 : decode b_Md_root 120 = .ok (.lshl, 1) := by decide +kernel
theorem d_Md_root_121 : decode b_Md_root 121 = .ok (.lstore 7, 2) := by decide +kernel
theorem d_Md_root_123 : decode b_Md_root 123 = .ok (.lload 9, 2) := by decide +kernel
theorem d_Md_root_125 : decode b_Md_root 125 = .ok (.lload 13, 2) := by decide +kernel
theorem d_Md_root_127 : decode b_Md_root 127 = .ok (.lcmp, 1) := by decide +kernel
theorem d_Md_root_128 : decode b_Md_root 128 = .ok (.ifCond .lt 16, 3) := by decide +kernel
theorem d_Md_root_131 : decode b_Md_root 131 = .ok (.lload 9, 2) := by decide +kernel
theorem d_Md_root_133 : decode b_Md_root 133 = .ok (.lload 13, 2) := by decide +kernel
theorem d_Md_root_135 : decode b_Md_root 135 = .ok (.lsub, 1) := by decide +kernel
theorem d_Md_root_136 : decode b_Md_root 136 = .ok (.lstore 9, 2) := by decide +kernel
theorem d_Md_root_138 : decode b_Md_root 138 = .ok (.lload 7, 2) := by decide +kernel
theorem d_Md_root_140 : decode b_Md_root 140 = .ok (.lconst 1, 1) := by decide +kernel
theorem d_Md_root_141 : decode b_Md_root 141 = .ok (.lor, 1) := by decide +kernel
theorem d_Md_root_142 : decode b_Md_root 142 = .ok (.lstore 7, 2) := by decide +kernel
theorem d_Md_root_144 : decode b_Md_root 144 = .ok (.iinc 11 1, 3) := by decide +kernel
theorem d_Md_root_147 : decode b_Md_root 147 = .ok (.goto (-79), 3) := by decide +kernel
theorem d_Md_root_150 : decode b_Md_root 150 = .ok (.iconst 0, 1) := by decide +kernel
theorem d_Md_root_151 : decode b_Md_root 151 = .ok (.lload 7, 2) := by decide +kernel
theorem d_Md_root_153 : decode b_Md_root 153 = .ok (.iload 6, 2) := by decide +kernel
theorem d_Md_root_155 : decode b_Md_root 155 = .ok (.iconst 2, 1) := by decide +kernel
theorem d_Md_root_156 : decode b_Md_root 156 = .ok (.idiv, 1) := by decide +kernel
theorem d_Md_root_157 : decode b_Md_root 157 = .ok (.bipush 30, 2) := by decide +kernel
theorem d_Md_root_159 : decode b_Md_root 159 = .ok (.isub, 1) := by decide +kernel
theorem d_Md_root_160 : decode b_Md_root 160 = .ok (.lload 9, 2) := by decide +kernel
theorem d_Md_root_162 : decode b_Md_root 162 = .ok (.lconst 0, 1) := by decide +kernel
theorem d_Md_root_163 : decode b_Md_root 163 = .ok (.lcmp, 1) := by decide +kernel
theorem d_Md_root_164 : decode b_Md_root 164 = .ok (.ifCond .le 7, 3) := by decide +kernel
theorem d_Md_root_167 : decode b_Md_root 167 = .ok (.iconst 1, 1) := by decide +kernel
theorem d_Md_root_168 : decode b_Md_root 168 = .ok (.goto 4, 3) := by decide +kernel
theorem d_Md_root_171 : decode b_Md_root 171 = .ok (.iconst 0, 1) := by decide +kernel
theorem d_Md_root_172 : decode b_Md_root 172 = .ok (.iload_n 3, 1) := by decide +kernel
theorem d_Md_root_173 : decode b_Md_root 173 = .ok (.invokestatic 246, 3) := by decide +kernel
theorem d_Md_root_176 : decode b_Md_root 176 = .ok (.lreturn, 1) := by decide +kernel
theorem d_Md_one_0 : decode b_Md_one 0 = .ok (.lconst 1, 1) := by decide +kernel
theorem d_Md_one_1 : decode b_Md_one 1 = .ok (.iload 4, 2) := by decide +kernel
theorem d_Md_one_3 : decode b_Md_one 3 = .ok (.ifCond .eq 8, 3) := by decide +kernel
theorem d_Md_one_6 : decode b_Md_one 6 = .ok (.bipush 63, 2) := by decide +kernel
theorem d_Md_one_8 : decode b_Md_one 8 = .ok (.goto 5, 3) := by decide +kernel
theorem d_Md_one_11 : decode b_Md_one 11 = .ok (.bipush 31, 2) := by decide +kernel
theorem d_Md_one_13 : decode b_Md_one 13 = .ok (.lshl, 1) := by decide +kernel
theorem d_Md_one_14 : decode b_Md_one 14 = .ok (.lstore 5, 2) := by decide +kernel
theorem d_Md_one_16 : decode b_Md_one 16 = .ok (.aload_n 0, 1) := by decide +kernel
theorem d_Md_one_17 : decode b_Md_one 17 = .ok (.lload_n 2, 1) := by decide +kernel
theorem d_Md_one_18 : decode b_Md_one 18 = .ok (.iload 4, 2) := by decide +kernel
theorem d_Md_one_20 : decode b_Md_one 20 = .ok (.invokevirtual 282, 3) := by decide +kernel
theorem d_Md_one_23 : decode b_Md_one 23 = .ok (.iload_n 1, 1) := by decide +kernel
theorem d_Md_one_24 : decode b_Md_one 24 = .ok (.bipush 6, 2) := by decide +kernel
theorem d_Md_one_26 : decode b_Md_one 26 = .ok (.if_icmp .ne 5, 3) := by decide +kernel
theorem d_Md_one_29 : decode b_Md_one 29 = .ok (.lload_n 2, 1) := by decide +kernel
theorem d_Md_one_30 : decode b_Md_one 30 = .ok (.lreturn, 1) := by decide +kernel
theorem d_Md_one_31 : decode b_Md_one 31 = .ok (.aload_n 0, 1) := by decide +kernel
theorem d_Md_one_32 : decode b_Md_one 32 = .ok (.getfield 210, 3) := by decide +kernel
theorem d_Md_one_35 : decode b_Md_one 35 = .ok (.iconst 3, 1) := by decide +kernel
theorem d_Md_one_36 : decode b_Md_one 36 = .ok (.if_icmp .ne 9, 3) := by decide +kernel
theorem d_Md_one_39 : decode b_Md_one 39 = .ok (.iload 4, 2) := by decide +kernel
theorem d_Md_one_41 : decode b_Md_one 41 = .ok (.invokestatic 297, 3) := by decide +kernel
theorem d_Md_one_44 : decode b_Md_one 44 = .ok (.lreturn, 1) := by decide +kernel
theorem d_Md_one_45 : decode b_Md_one 45 = .ok (.iload_n 1, 1) := by decide +kernel
theorem d_Md_one_46 : decode b_Md_one 46 = .ok (.iconst 5, 1) := by decide +kernel
theorem d_Md_one_47 : decode b_Md_one 47 = .ok (.if_icmp .ne 12, 3) := by decide +kernel
theorem d_Md_one_50 : decode b_Md_one 50 = .ok (.lload_n 2, 1) := by decide +kernel
theorem d_Md_one_51 : decode b_Md_one 51 = .ok (.lload 5, 2) := by decide +kernel
theorem d_Md_one_53 : decode b_Md_one 53 = .ok (.ldc2_w 300, 3) := by decide +kernel
theorem d_Md_one_56 : decode b_Md_one 56 = .ok (.lxor, 1) := by decide +kernel
theorem d_Md_one_57 : decode b_Md_one 57 = .ok (.land, 1) := by decide +kernel
theorem d_Md_one_58 : decode b_Md_one 58 = .ok (.lreturn, 1) := by decide +kernel
theorem d_Md_one_59 : decode b_Md_one 59 = .ok (.iload_n 1, 1) := by decide +kernel
theorem d_Md_one_60 : decode b_Md_one 60 = .ok (.bipush 7, 2) := by decide +kernel
theorem d_Md_one_62 : decode b_Md_one 62 = .ok (.if_icmp .ne 8, 3) := by decide +kernel
theorem d_Md_one_65 : decode b_Md_one 65 = .ok (.lload_n 2, 1) := by decide +kernel
theorem d_Md_one_66 : decode b_Md_one 66 = .ok (.lload 5, 2) := by decide +kernel
theorem d_Md_one_68 : decode b_Md_one 68 = .ok (.lxor, 1) := by decide +kernel
theorem d_Md_one_69 : decode b_Md_one 69 = .ok (.lreturn, 1) := by decide +kernel
theorem d_Md_one_70 : decode b_Md_one 70 = .ok (.aload_n 0, 1) := by decide +kernel
theorem d_Md_one_71 : decode b_Md_one 71 = .ok (.lload_n 2, 1) := by decide +kernel
theorem d_Md_one_72 : decode b_Md_one 72 = .ok (.iload 4, 2) := by decide +kernel
theorem d_Md_one_74 : decode b_Md_one 74 = .ok (.invokevirtual 302, 3) := by decide +kernel
theorem d_Md_one_77 : decode b_Md_one 77 = .ok (.lreturn, 1) := by decide +kernel
theorem d_Md_reckons_0 : decode b_Md_reckons 0 = .ok (.iload_n 1, 1) := by decide +kernel
theorem d_Md_reckons_1 : decode b_Md_reckons 1 = .ok (.iconst 4, 1) := by decide +kernel
theorem d_Md_reckons_2 : decode b_Md_reckons 2 = .ok (.if_icmp .lt 9, 3) := by decide +kernel
theorem d_Md_reckons_5 : decode b_Md_reckons 5 = .ok (.iload_n 1, 1) := by decide +kernel
theorem d_Md_reckons_6 : decode b_Md_reckons 6 = .ok (.bipush 48, 2) := by decide +kernel
theorem d_Md_reckons_8 : decode b_Md_reckons 8 = .ok (.if_icmp .lt 7, 3) := by decide +kernel
theorem d_Md_reckons_11 : decode b_Md_reckons 11 = .ok (.iconst 1, 1) := by decide +kernel
theorem d_Md_reckons_12 : decode b_Md_reckons 12 = .ok (.goto 4, 3) := by decide +kernel
theorem d_Md_reckons_15 : decode b_Md_reckons 15 = .ok (.iconst 0, 1) := by decide +kernel
theorem d_Md_reckons_16 : decode b_Md_reckons 16 = .ok (.istore 6, 2) := by decide +kernel
theorem d_Md_reckons_18 : decode b_Md_reckons 18 = .ok (.iload_n 1, 1) := by decide +kernel
theorem d_Md_reckons_19 : decode b_Md_reckons 19 = .ok (.bipush 12, 2) := by decide +kernel
theorem d_Md_reckons_21 : decode b_Md_reckons 21 = .ok (.if_icmp .lt 9, 3) := by decide +kernel
theorem d_Md_reckons_24 : decode b_Md_reckons 24 = .ok (.iload_n 1, 1) := by decide +kernel
theorem d_Md_reckons_25 : decode b_Md_reckons 25 = .ok (.bipush 16, 2) := by decide +kernel
theorem d_Md_reckons_27 : decode b_Md_reckons 27 = .ok (.if_icmp .lt 9, 3) := by decide +kernel
theorem d_Md_reckons_30 : decode b_Md_reckons 30 = .ok (.iload_n 1, 1) := by decide +kernel
theorem d_Md_reckons_31 : decode b_Md_reckons 31 = .ok (.bipush 36, 2) := by decide +kernel
theorem d_Md_reckons_33 : decode b_Md_reckons 33 = .ok (.if_icmp .ne 7, 3) := by decide +kernel
theorem d_Md_reckons_36 : decode b_Md_reckons 36 = .ok (.iconst 1, 1) := by decide +kernel
theorem d_Md_reckons_37 : decode b_Md_reckons 37 = .ok (.goto 4, 3) := by decide +kernel
theorem d_Md_reckons_40 : decode b_Md_reckons 40 = .ok (.iconst 0, 1) := by decide +kernel
theorem d_Md_reckons_41 : decode b_Md_reckons 41 = .ok (.istore 7, 2) := by decide +kernel
theorem d_Md_reckons_43 : decode b_Md_reckons 43 = .ok (.iload_n 1, 1) := by decide +kernel
theorem d_Md_reckons_44 : decode b_Md_reckons 44 = .ok (.bipush 8, 2) := by decide +kernel
theorem d_Md_reckons_46 : decode b_Md_reckons 46 = .ok (.if_icmp .lt 46, 3) := by decide +kernel
theorem d_Md_reckons_49 : decode b_Md_reckons 49 = .ok (.iload 7, 2) := by decide +kernel
theorem d_Md_reckons_51 : decode b_Md_reckons 51 = .ok (.ifCond .ne 41, 3) := by decide +kernel
theorem d_Md_reckons_54 : decode b_Md_reckons 54 = .ok (.iload_n 1, 1) := by decide +kernel
theorem d_Md_reckons_55 : decode b_Md_reckons 55 = .ok (.bipush 17, 2) := by decide +kernel
theorem d_Md_reckons_57 : decode b_Md_reckons 57 = .ok (.if_icmp .lt 9, 3) := by decide +kernel
theorem d_Md_reckons_60 : decode b_Md_reckons 60 = .ok (.iload_n 1, 1) := by decide +kernel
theorem d_Md_reckons_61 : decode b_Md_reckons 61 = .ok (.bipush 20, 2) := by decide +kernel
theorem d_Md_reckons_63 : decode b_Md_reckons 63 = .ok (.if_icmp .lt 29, 3) := by decide +kernel
theorem d_Md_reckons_66 : decode b_Md_reckons 66 = .ok (.iload_n 1, 1) := by decide +kernel
theorem d_Md_reckons_67 : decode b_Md_reckons 67 = .ok (.bipush 32, 2) := by decide +kernel
theorem d_Md_reckons_69 : decode b_Md_reckons 69 = .ok (.if_icmp .ne 7, 3) := by decide +kernel
theorem d_Md_reckons_72 : decode b_Md_reckons 72 = .ok (.iload_n 2, 1) := by decide +kernel
theorem d_Md_reckons_73 : decode b_Md_reckons 73 = .ok (.ifCond .ne 19, 3) := by decide +kernel
theorem d_Md_reckons_76 : decode b_Md_reckons 76 = .ok (.iload_n 1, 1) := by decide +kernel
theorem d_Md_reckons_77 : decode b_Md_reckons 77 = .ok (.bipush 33, 2) := by decide +kernel
theorem d_Md_reckons_79 : decode b_Md_reckons 79 = .ok (.if_icmp .ne 7, 3) := by decide +kernel
theorem d_Md_reckons_82 : decode b_Md_reckons 82 = .ok (.iload_n 2, 1) := by decide +kernel
theorem d_Md_reckons_83 : decode b_Md_reckons 83 = .ok (.ifCond .eq 9, 3) := by decide +kernel
theorem d_Md_reckons_86 : decode b_Md_reckons 86 = .ok (.iload_n 1, 1) := by decide +kernel
theorem d_Md_reckons_87 : decode b_Md_reckons 87 = .ok (.bipush 48, 2) := by decide +kernel
theorem d_Md_reckons_89 : decode b_Md_reckons 89 = .ok (.if_icmp .lt 7, 3) := by decide +kernel
theorem d_Md_reckons_92 : decode b_Md_reckons 92 = .ok (.iconst 1, 1) := by decide +kernel
theorem d_Md_reckons_93 : decode b_Md_reckons 93 = .ok (.goto 4, 3) := by decide +kernel
theorem d_Md_reckons_96 : decode b_Md_reckons 96 = .ok (.iconst 0, 1) := by decide +kernel
theorem d_Md_reckons_97 : decode b_Md_reckons 97 = .ok (.istore 8, 2) := by decide +kernel
theorem d_Md_reckons_99 : decode b_Md_reckons 99 = .ok (.iload 8, 2) := by decide +kernel
theorem d_Md_reckons_101 : decode b_Md_reckons 101 = .ok (.ifCond .ne 9, 3) := by decide +kernel
theorem d_Md_reckons_104 : decode b_Md_reckons 104 = .ok (.aload_n 0, 1) := by decide +kernel
theorem d_Md_reckons_105 : decode b_Md_reckons 105 = .ok (.iconst 3, 1) := by decide +kernel
theorem d_Md_reckons_106 : decode b_Md_reckons 106 = .ok (.invokevirtual 116, 3) := by decide +kernel
theorem d_Md_reckons_109 : decode b_Md_reckons 109 = .ok (.return_, 1) := by decide +kernel
theorem d_Md_reckons_110 : decode b_Md_reckons 110 = .ok (.aload_n 0, 1) := by decide +kernel
theorem d_Md_reckons_111 : decode b_Md_reckons 111 = .ok (.iload_n 2, 1) := by decide +kernel
theorem d_Md_reckons_112 : decode b_Md_reckons 112 = .ok (.iload_n 3, 1) := by decide +kernel
theorem d_Md_reckons_113 : decode b_Md_reckons 113 = .ok (.invokevirtual 254, 3) := by decide +kernel
theorem d_Md_reckons_116 : decode b_Md_reckons 116 = .ok (.iload 6, 2) := by decide +kernel
theorem d_Md_reckons_118 : decode b_Md_reckons 118 = .ok (.ifCond .eq 10, 3) := by decide +kernel
theorem d_Md_reckons_121 : decode b_Md_reckons 121 = .ok (.aload_n 0, 1) := by decide +kernel
theorem d_Md_reckons_122 : decode b_Md_reckons 122 = .ok (.iload_n 2, 1) := by decide +kernel
theorem d_Md_reckons_123 : decode b_Md_reckons 123 = .ok (.iload 4, 2) := by decide +kernel
theorem d_Md_reckons_125 : decode b_Md_reckons 125 = .ok (.invokevirtual 254, 3) := by decide +kernel
theorem d_Md_reckons_128 : decode b_Md_reckons 128 = .ok (.iload_n 1, 1) := by decide +kernel
theorem d_Md_reckons_129 : decode b_Md_reckons 129 = .ok (.bipush 8, 2) := by decide +kernel
theorem d_Md_reckons_131 : decode b_Md_reckons 131 = .ok (.if_icmp .lt 15, 3) := by decide +kernel
theorem d_Md_reckons_134 : decode b_Md_reckons 134 = .ok (.iload_n 1, 1) := by decide +kernel
theorem d_Md_reckons_135 : decode b_Md_reckons 135 = .ok (.bipush 17, 2) := by decide +kernel
theorem d_Md_reckons_137 : decode b_Md_reckons 137 = .ok (.if_icmp .lt 16, 3) := by decide +kernel
theorem d_Md_reckons_140 : decode b_Md_reckons 140 = .ok (.iload_n 1, 1) := by decide +kernel
theorem d_Md_reckons_141 : decode b_Md_reckons 141 = .ok (.bipush 20, 2) := by decide +kernel
theorem d_Md_reckons_143 : decode b_Md_reckons 143 = .ok (.if_icmp .ge 10, 3) := by decide +kernel
theorem d_Md_reckons_146 : decode b_Md_reckons 146 = .ok (.aload_n 0, 1) := by decide +kernel
theorem d_Md_reckons_147 : decode b_Md_reckons 147 = .ok (.iload_n 2, 1) := by decide +kernel
theorem d_Md_reckons_148 : decode b_Md_reckons 148 = .ok (.iload 5, 2) := by decide +kernel
theorem d_Md_reckons_150 : decode b_Md_reckons 150 = .ok (.invokevirtual 254, 3) := by decide +kernel
theorem d_Md_reckons_153 : decode b_Md_reckons 153 = .ok (.iload_n 1, 1) := by decide +kernel
theorem d_Md_reckons_154 : decode b_Md_reckons 154 = .ok (.bipush 33, 2) := by decide +kernel
theorem d_Md_reckons_156 : decode b_Md_reckons 156 = .ok (.if_icmp .ne 10, 3) := by decide +kernel
theorem d_Md_reckons_159 : decode b_Md_reckons 159 = .ok (.aload_n 0, 1) := by decide +kernel
theorem d_Md_reckons_160 : decode b_Md_reckons 160 = .ok (.iconst 1, 1) := by decide +kernel
theorem d_Md_reckons_161 : decode b_Md_reckons 161 = .ok (.iload 5, 2) := by decide +kernel
theorem d_Md_reckons_163 : decode b_Md_reckons 163 = .ok (.invokevirtual 254, 3) := by decide +kernel
theorem d_Md_reckons_166 : decode b_Md_reckons 166 = .ok (.aload_n 0, 1) := by decide +kernel
theorem d_Md_reckons_167 : decode b_Md_reckons 167 = .ok (.getfield 63, 3) := by decide +kernel
theorem d_Md_reckons_170 : decode b_Md_reckons 170 = .ok (.ifCond .le 4, 3) := by decide +kernel
theorem d_Md_reckons_173 : decode b_Md_reckons 173 = .ok (.return_, 1) := by decide +kernel
theorem d_Md_reckons_174 : decode b_Md_reckons 174 = .ok (.aload_n 0, 1) := by decide +kernel
theorem d_Md_reckons_175 : decode b_Md_reckons 175 = .ok (.iload_n 3, 1) := by decide +kernel
theorem d_Md_reckons_176 : decode b_Md_reckons 176 = .ok (.iload_n 2, 1) := by decide +kernel
theorem d_Md_reckons_177 : decode b_Md_reckons 177 = .ok (.invokevirtual 258, 3) := by decide +kernel
theorem d_Md_reckons_180 : decode b_Md_reckons 180 = .ok (.lstore 9, 2) := by decide +kernel
theorem d_Md_reckons_182 : decode b_Md_reckons 182 = .ok (.iload_n 1, 1) := by decide +kernel
theorem d_Md_reckons_183 : decode b_Md_reckons 183 = .ok (.bipush 48, 2) := by decide +kernel
theorem d_Md_reckons_185 : decode b_Md_reckons 185 = .ok (.if_icmp .lt 24, 3) := by decide +kernel
theorem d_Md_reckons_188 : decode b_Md_reckons 188 = .ok (.aload_n 0, 1) := by decide +kernel
theorem d_Md_reckons_189 : decode b_Md_reckons 189 = .ok (.iload_n 1, 1) := by decide +kernel
theorem d_Md_reckons_190 : decode b_Md_reckons 190 = .ok (.bipush 7, 2) := by decide +kernel
theorem d_Md_reckons_192 : decode b_Md_reckons 192 = .ok (.iand, 1) := by decide +kernel
theorem d_Md_reckons_193 : decode b_Md_reckons 193 = .ok (.lload 9, 2) := by decide +kernel
theorem d_Md_reckons_195 : decode b_Md_reckons 195 = .ok (.aload_n 0, 1) := by decide +kernel
theorem d_Md_reckons_196 : decode b_Md_reckons 196 = .ok (.iload 4, 2) := by decide +kernel
theorem d_Md_reckons_198 : decode b_Md_reckons 198 = .ok (.iload_n 2, 1) := by decide +kernel
theorem d_Md_reckons_199 : decode b_Md_reckons 199 = .ok (.invokevirtual 258, 3) := by decide +kernel
theorem d_Md_reckons_202 : decode b_Md_reckons 202 = .ok (.iload_n 2, 1) := by decide +kernel
theorem d_Md_reckons_203 : decode b_Md_reckons 203 = .ok (.invokevirtual 262, 3) := by decide +kernel
theorem d_Md_reckons_206 : decode b_Md_reckons 206 = .ok (.goto 198, 3) := by decide +kernel
theorem d_Md_reckons_209 : decode b_Md_reckons 209 = .ok (.iload_n 1, 1) := by decide +kernel
theorem d_Md_reckons_210 : decode b_Md_reckons 210 = .ok (.iconst 4, 1) := by decide +kernel
theorem d_Md_reckons_211 : decode b_Md_reckons 211 = .ok (.if_icmp .ge 28, 3) := by decide +kernel
theorem d_Md_reckons_214 : decode b_Md_reckons 214 = .ok (.aload_n 0, 1) := by decide +kernel
theorem d_Md_reckons_215 : decode b_Md_reckons 215 = .ok (.iload 5, 2) := by decide +kernel
theorem d_Md_reckons_217 : decode b_Md_reckons 217 = .ok (.iload_n 2, 1) := by decide +kernel
theorem d_Md_reckons_218 : decode b_Md_reckons 218 = .ok (.aload_n 0, 1) := by decide +kernel
theorem d_Md_reckons_219 : decode b_Md_reckons 219 = .ok (.iload_n 1, 1) := by decide +kernel
theorem d_Md_reckons_220 : decode b_Md_reckons 220 = .ok (.lload 9, 2) := by decide +kernel
theorem d_Md_reckons_222 : decode b_Md_reckons 222 = .ok (.aload_n 0, 1) := by decide +kernel
theorem d_Md_reckons_223 : decode b_Md_reckons 223 = .ok (.iload 4, 2) := by decide +kernel
theorem d_Md_reckons_225 : decode b_Md_reckons 225 = .ok (.iload_n 2, 1) := by decide +kernel
theorem d_Md_reckons_226 : decode b_Md_reckons 226 = .ok (.invokevirtual 258, 3) := by decide +kernel
theorem d_Md_reckons_229 : decode b_Md_reckons 229 = .ok (.iload_n 2, 1) := by decide +kernel
theorem d_Md_reckons_230 : decode b_Md_reckons 230 = .ok (.invokevirtual 266, 3) := by decide +kernel
theorem d_Md_reckons_233 : decode b_Md_reckons 233 = .ok (.invokevirtual 250, 3) := by decide +kernel
theorem d_Md_reckons_236 : decode b_Md_reckons 236 = .ok (.goto 168, 3) := by decide +kernel
theorem d_Md_reckons_239 : decode b_Md_reckons 239 = .ok (.iload 7, 2) := by decide +kernel
theorem d_Md_reckons_241 : decode b_Md_reckons 241 = .ok (.ifCond .eq 26, 3) := by decide +kernel
theorem d_Md_reckons_244 : decode b_Md_reckons 244 = .ok (.aload_n 0, 1) := by decide +kernel
theorem d_Md_reckons_245 : decode b_Md_reckons 245 = .ok (.iload 5, 2) := by decide +kernel
theorem d_Md_reckons_247 : decode b_Md_reckons 247 = .ok (.iconst 0, 1) := by decide +kernel
theorem d_Md_reckons_248 : decode b_Md_reckons 248 = .ok (.aload_n 0, 1) := by decide +kernel
theorem d_Md_reckons_249 : decode b_Md_reckons 249 = .ok (.iload_n 1, 1) := by decide +kernel
theorem d_Md_reckons_250 : decode b_Md_reckons 250 = .ok (.lload 9, 2) := by decide +kernel
theorem d_Md_reckons_252 : decode b_Md_reckons 252 = .ok (.iload_n 2, 1) := by decide +kernel
theorem d_Md_reckons_253 : decode b_Md_reckons 253 = .ok (.invokevirtual 270, 3) := by decide +kernel
theorem d_Md_reckons_256 : decode b_Md_reckons 256 = .ok (.i2l, 1) := by decide +kernel
theorem d_Md_reckons_257 : decode b_Md_reckons 257 = .ok (.ldc2_w 163, 3) := by decide +kernel
theorem d_Md_reckons_260 : decode b_Md_reckons 260 = .ok (.land, 1) := by decide +kernel
theorem d_Md_reckons_261 : decode b_Md_reckons 261 = .ok (.invokevirtual 250, 3) := by decide +kernel
theorem d_Md_reckons_264 : decode b_Md_reckons 264 = .ok (.goto 140, 3) := by decide +kernel
theorem d_Md_reckons_267 : decode b_Md_reckons 267 = .ok (.iload_n 1, 1) := by decide +kernel
theorem d_Md_reckons_268 : decode b_Md_reckons 268 = .ok (.bipush 32, 2) := by decide +kernel
theorem d_Md_reckons_270 : decode b_Md_reckons 270 = .ok (.if_icmp .eq 9, 3) := by decide +kernel
theorem d_Md_reckons_273 : decode b_Md_reckons 273 = .ok (.iload_n 1, 1) := by decide +kernel
theorem d_Md_reckons_274 : decode b_Md_reckons 274 = .ok (.bipush 33, 2) := by decide +kernel
theorem d_Md_reckons_276 : decode b_Md_reckons 276 = .ok (.if_icmp .ne 28, 3) := by decide +kernel
theorem d_Md_reckons_279 : decode b_Md_reckons 279 = .ok (.aload_n 0, 1) := by decide +kernel
theorem d_Md_reckons_280 : decode b_Md_reckons 280 = .ok (.iload 5, 2) := by decide +kernel
theorem d_Md_reckons_282 : decode b_Md_reckons 282 = .ok (.iload_n 2, 1) := by decide +kernel
theorem d_Md_reckons_283 : decode b_Md_reckons 283 = .ok (.ifCond .ne 7, 3) := by decide +kernel
theorem d_Md_reckons_286 : decode b_Md_reckons 286 = .ok (.iconst 1, 1) := by decide +kernel
theorem d_Md_reckons_287 : decode b_Md_reckons 287 = .ok (.goto 4, 3) := by decide +kernel
theorem d_Md_reckons_290 : decode b_Md_reckons 290 = .ok (.iconst 0, 1) := by decide +kernel
theorem d_Md_reckons_291 : decode b_Md_reckons 291 = .ok (.aload_n 0, 1) := by decide +kernel
theorem d_Md_reckons_292 : decode b_Md_reckons 292 = .ok (.lload 9, 2) := by decide +kernel
theorem d_Md_reckons_294 : decode b_Md_reckons 294 = .ok (.iload_n 2, 1) := by decide +kernel
theorem d_Md_reckons_295 : decode b_Md_reckons 295 = .ok (.invokevirtual 274, 3) := by decide +kernel
theorem d_Md_reckons_298 : decode b_Md_reckons 298 = .ok (.invokevirtual 250, 3) := by decide +kernel
theorem d_Md_reckons_301 : decode b_Md_reckons 301 = .ok (.goto 103, 3) := by decide +kernel
theorem d_Md_reckons_304 : decode b_Md_reckons 304 = .ok (.iload_n 1, 1) := by decide +kernel
theorem d_Md_reckons_305 : decode b_Md_reckons 305 = .ok (.bipush 8, 2) := by decide +kernel
theorem d_Md_reckons_307 : decode b_Md_reckons 307 = .ok (.if_icmp .ge 21, 3) := by decide +kernel
theorem d_Md_reckons_310 : decode b_Md_reckons 310 = .ok (.aload_n 0, 1) := by decide +kernel
theorem d_Md_reckons_311 : decode b_Md_reckons 311 = .ok (.iload 5, 2) := by decide +kernel
theorem d_Md_reckons_313 : decode b_Md_reckons 313 = .ok (.iload_n 2, 1) := by decide +kernel
theorem d_Md_reckons_314 : decode b_Md_reckons 314 = .ok (.aload_n 0, 1) := by decide +kernel
theorem d_Md_reckons_315 : decode b_Md_reckons 315 = .ok (.iload_n 1, 1) := by decide +kernel
theorem d_Md_reckons_316 : decode b_Md_reckons 316 = .ok (.lload 9, 2) := by decide +kernel
theorem d_Md_reckons_318 : decode b_Md_reckons 318 = .ok (.iload_n 2, 1) := by decide +kernel
theorem d_Md_reckons_319 : decode b_Md_reckons 319 = .ok (.invokevirtual 278, 3) := by decide +kernel
theorem d_Md_reckons_322 : decode b_Md_reckons 322 = .ok (.invokevirtual 250, 3) := by decide +kernel
theorem d_Md_reckons_325 : decode b_Md_reckons 325 = .ok (.goto 79, 3) := by decide +kernel
theorem d_Md_reckons_328 : decode b_Md_reckons 328 = .ok (.iload_n 1, 1) := by decide +kernel
theorem d_Md_reckons_329 : decode b_Md_reckons 329 = .ok (.bipush 17, 2) := by decide +kernel
theorem d_Md_reckons_331 : decode b_Md_reckons 331 = .ok (.if_icmp .ne 38, 3) := by decide +kernel
theorem d_Md_reckons_334 : decode b_Md_reckons 334 = .ok (.aload_n 0, 1) := by decide +kernel
theorem d_Md_reckons_335 : decode b_Md_reckons 335 = .ok (.getfield 14, 3) := by decide +kernel
theorem d_Md_reckons_338 : decode b_Md_reckons 338 = .ok (.bipush 66, 2) := by decide +kernel
theorem d_Md_reckons_340 : decode b_Md_reckons 340 = .ok (.iaload, 1) := by decide +kernel
theorem d_Md_reckons_341 : decode b_Md_reckons 341 = .ok (.aload_n 0, 1) := by decide +kernel
theorem d_Md_reckons_342 : decode b_Md_reckons 342 = .ok (.getfield 82, 3) := by decide +kernel
theorem d_Md_reckons_345 : decode b_Md_reckons 345 = .ok (.bipush 18, 2) := by decide +kernel
theorem d_Md_reckons_347 : decode b_Md_reckons 347 = .ok (.iushr, 1) := by decide +kernel
theorem d_Md_reckons_348 : decode b_Md_reckons 348 = .ok (.bipush 7, 2) := by decide +kernel
theorem d_Md_reckons_350 : decode b_Md_reckons 350 = .ok (.iand, 1) := by decide +kernel
theorem d_Md_reckons_351 : decode b_Md_reckons 351 = .ok (.ishr, 1) := by decide +kernel
theorem d_Md_reckons_352 : decode b_Md_reckons 352 = .ok (.iconst 1, 1) := by decide +kernel
theorem d_Md_reckons_353 : decode b_Md_reckons 353 = .ok (.iand, 1) := by decide +kernel
theorem d_Md_reckons_354 : decode b_Md_reckons 354 = .ok (.aload_n 0, 1) := by decide +kernel
theorem d_Md_reckons_355 : decode b_Md_reckons 355 = .ok (.getfield 82, 3) := by decide +kernel
theorem d_Md_reckons_358 : decode b_Md_reckons 358 = .ok (.bipush 16, 2) := by decide +kernel
theorem d_Md_reckons_360 : decode b_Md_reckons 360 = .ok (.iushr, 1) := by decide +kernel
theorem d_Md_reckons_361 : decode b_Md_reckons 361 = .ok (.iconst 1, 1) := by decide +kernel
theorem d_Md_reckons_362 : decode b_Md_reckons 362 = .ok (.iand, 1) := by decide +kernel
theorem d_Md_reckons_363 : decode b_Md_reckons 363 = .ok (.if_icmp .ne 41, 3) := by decide +kernel
theorem d_Md_reckons_366 : decode b_Md_reckons 366 = .ok (.goto 29, 3) := by decide +kernel
theorem d_Md_reckons_369 : decode b_Md_reckons 369 = .ok (.aload_n 0, 1) := by decide +kernel
theorem d_Md_reckons_370 : decode b_Md_reckons 370 = .ok (.invokevirtual 135, 3) := by decide +kernel
theorem d_Md_reckons_373 : decode b_Md_reckons 373 = .ok (.ifCond .ne 7, 3) := by decide +kernel
theorem d_Md_reckons_376 : decode b_Md_reckons 376 = .ok (.iconst 1, 1) := by decide +kernel
theorem d_Md_reckons_377 : decode b_Md_reckons 377 = .ok (.goto 4, 3) := by decide +kernel
theorem d_Md_reckons_380 : decode b_Md_reckons 380 = .ok (.iconst 0, 1) := by decide +kernel
theorem d_Md_reckons_381 : decode b_Md_reckons 381 = .ok (.iload_n 1, 1) := by decide +kernel
theorem d_Md_reckons_382 : decode b_Md_reckons 382 = .ok (.bipush 18, 2) := by decide +kernel
theorem d_Md_reckons_384 : decode b_Md_reckons 384 = .ok (.if_icmp .ne 7, 3) := by decide +kernel
theorem d_Md_reckons_387 : decode b_Md_reckons 387 = .ok (.iconst 1, 1) := by decide +kernel
theorem d_Md_reckons_388 : decode b_Md_reckons 388 = .ok (.goto 4, 3) := by decide +kernel
theorem d_Md_reckons_391 : decode b_Md_reckons 391 = .ok (.iconst 0, 1) := by decide +kernel
theorem d_Md_reckons_392 : decode b_Md_reckons 392 = .ok (.if_icmp .ne 12, 3) := by decide +kernel
theorem d_Md_reckons_395 : decode b_Md_reckons 395 = .ok (.aload_n 0, 1) := by decide +kernel
theorem d_Md_reckons_396 : decode b_Md_reckons 396 = .ok (.iload 5, 2) := by decide +kernel
theorem d_Md_reckons_398 : decode b_Md_reckons 398 = .ok (.iload_n 2, 1) := by decide +kernel
theorem d_Md_reckons_399 : decode b_Md_reckons 399 = .ok (.lload 9, 2) := by decide +kernel
theorem d_Md_reckons_401 : decode b_Md_reckons 401 = .ok (.invokevirtual 250, 3) := by decide +kernel
theorem d_Md_reckons_404 : decode b_Md_reckons 404 = .ok (.return_, 1) := by decide +kernel
theorem d_Md_fractions_0 : decode b_Md_fractions 0 = .ok (.aload_n 0, 1) := by decide +kernel
theorem d_Md_fractions_1 : decode b_Md_fractions 1 = .ok (.bipush 21, 2) := by decide +kernel
theorem d_Md_fractions_3 : decode b_Md_fractions 3 = .ok (.invokevirtual 85, 3) := by decide +kernel
theorem d_Md_fractions_6 : decode b_Md_fractions 6 = .ok (.istore_n 1, 1) := by decide +kernel
theorem d_Md_fractions_7 : decode b_Md_fractions 7 = .ok (.aload_n 0, 1) := by decide +kernel
theorem d_Md_fractions_8 : decode b_Md_fractions 8 = .ok (.bipush 11, 2) := by decide +kernel
theorem d_Md_fractions_10 : decode b_Md_fractions 10 = .ok (.invokevirtual 85, 3) := by decide +kernel
theorem d_Md_fractions_13 : decode b_Md_fractions 13 = .ok (.istore_n 2, 1) := by decide +kernel
theorem d_Md_fractions_14 : decode b_Md_fractions 14 = .ok (.aload_n 0, 1) := by decide +kernel
theorem d_Md_fractions_15 : decode b_Md_fractions 15 = .ok (.bipush 16, 2) := by decide +kernel
theorem d_Md_fractions_17 : decode b_Md_fractions 17 = .ok (.invokevirtual 85, 3) := by decide +kernel
theorem d_Md_fractions_20 : decode b_Md_fractions 20 = .ok (.istore_n 3, 1) := by decide +kernel
theorem d_Md_fractions_21 : decode b_Md_fractions 21 = .ok (.iload_n 1, 1) := by decide +kernel
theorem d_Md_fractions_22 : decode b_Md_fractions 22 = .ok (.ifCond .ne 20, 3) := by decide +kernel
theorem d_Md_fractions_25 : decode b_Md_fractions 25 = .ok (.aload_n 0, 1) := by decide +kernel
theorem d_Md_fractions_26 : decode b_Md_fractions 26 = .ok (.iload_n 3, 1) := by decide +kernel
theorem d_Md_fractions_27 : decode b_Md_fractions 27 = .ok (.aload_n 0, 1) := by decide +kernel
theorem d_Md_fractions_28 : decode b_Md_fractions 28 = .ok (.getfield 14, 3) := by decide +kernel
theorem d_Md_fractions_31 : decode b_Md_fractions 31 = .ok (.bipush 34, 2) := by decide +kernel
theorem d_Md_fractions_33 : decode b_Md_fractions 33 = .ok (.iload_n 2, 1) := by decide +kernel
theorem d_Md_fractions_34 : decode b_Md_fractions 34 = .ok (.iadd, 1) := by decide +kernel
theorem d_Md_fractions_35 : decode b_Md_fractions 35 = .ok (.iaload, 1) := by decide +kernel
theorem d_Md_fractions_36 : decode b_Md_fractions 36 = .ok (.invokevirtual 128, 3) := by decide +kernel
theorem d_Md_fractions_39 : decode b_Md_fractions 39 = .ok (.goto 289, 3) := by decide +kernel
theorem d_Md_fractions_42 : decode b_Md_fractions 42 = .ok (.iload_n 1, 1) := by decide +kernel
theorem d_Md_fractions_43 : decode b_Md_fractions 43 = .ok (.iconst 4, 1) := by decide +kernel
theorem d_Md_fractions_44 : decode b_Md_fractions 44 = .ok (.if_icmp .ne 19, 3) := by decide +kernel
theorem d_Md_fractions_47 : decode b_Md_fractions 47 = .ok (.aload_n 0, 1) := by decide +kernel
theorem d_Md_fractions_48 : decode b_Md_fractions 48 = .ok (.getfield 14, 3) := by decide +kernel
theorem d_Md_fractions_51 : decode b_Md_fractions 51 = .ok (.bipush 34, 2) := by decide +kernel
theorem d_Md_fractions_53 : decode b_Md_fractions 53 = .ok (.iload_n 2, 1) := by decide +kernel
theorem d_Md_fractions_54 : decode b_Md_fractions 54 = .ok (.iadd, 1) := by decide +kernel
theorem d_Md_fractions_55 : decode b_Md_fractions 55 = .ok (.aload_n 0, 1) := by decide +kernel
theorem d_Md_fractions_56 : decode b_Md_fractions 56 = .ok (.invokevirtual 239, 3) := by decide +kernel
theorem d_Md_fractions_59 : decode b_Md_fractions 59 = .ok (.iastore, 1) := by decide +kernel
theorem d_Md_fractions_60 : decode b_Md_fractions 60 = .ok (.goto 268, 3) := by decide +kernel
theorem d_Md_fractions_63 : decode b_Md_fractions 63 = .ok (.iload_n 1, 1) := by decide +kernel
theorem d_Md_fractions_64 : decode b_Md_fractions 64 = .ok (.bipush 8, 2) := by decide +kernel
theorem d_Md_fractions_66 : decode b_Md_fractions 66 = .ok (.if_icmp .ne 73, 3) := by decide +kernel
theorem d_Md_fractions_69 : decode b_Md_fractions 69 = .ok (.aload_n 0, 1) := by decide +kernel
theorem d_Md_fractions_70 : decode b_Md_fractions 70 = .ok (.getfield 14, 3) := by decide +kernel
theorem d_Md_fractions_73 : decode b_Md_fractions 73 = .ok (.bipush 66, 2) := by decide +kernel
theorem d_Md_fractions_75 : decode b_Md_fractions 75 = .ok (.iaload, 1) := by decide +kernel
theorem d_Md_fractions_76 : decode b_Md_fractions 76 = .ok (.aload_n 0, 1) := by decide +kernel
theorem d_Md_fractions_77 : decode b_Md_fractions 77 = .ok (.getfield 82, 3) := by decide +kernel
theorem d_Md_fractions_80 : decode b_Md_fractions 80 = .ok (.bipush 18, 2) := by decide +kernel
theorem d_Md_fractions_82 : decode b_Md_fractions 82 = .ok (.iushr, 1) := by decide +kernel
theorem d_Md_fractions_83 : decode b_Md_fractions 83 = .ok (.bipush 7, 2) := by decide +kernel
theorem d_Md_fractions_85 : decode b_Md_fractions 85 = .ok (.iand, 1) := by decide +kernel
theorem d_Md_fractions_86 : decode b_Md_fractions 86 = .ok (.ishr, 1) := by decide +kernel
theorem d_Md_fractions_87 : decode b_Md_fractions 87 = .ok (.iconst 1, 1) := by decide +kernel
theorem d_Md_fractions_88 : decode b_Md_fractions 88 = .ok (.iand, 1) := by decide +kernel
theorem d_Md_fractions_89 : decode b_Md_fractions 89 = .ok (.aload_n 0, 1) := by decide +kernel
theorem d_Md_fractions_90 : decode b_Md_fractions 90 = .ok (.getfield 82, 3) := by decide +kernel
theorem d_Md_fractions_93 : decode b_Md_fractions 93 = .ok (.bipush 16, 2) := by decide +kernel
theorem d_Md_fractions_95 : decode b_Md_fractions 95 = .ok (.iushr, 1) := by decide +kernel
theorem d_Md_fractions_96 : decode b_Md_fractions 96 = .ok (.iconst 1, 1) := by decide +kernel
theorem d_Md_fractions_97 : decode b_Md_fractions 97 = .ok (.iand, 1) := by decide +kernel
theorem d_Md_fractions_98 : decode b_Md_fractions 98 = .ok (.if_icmp .ne 7, 3) := by decide +kernel
theorem d_Md_fractions_101 : decode b_Md_fractions 101 = .ok (.iconst 1, 1) := by decide +kernel
theorem d_Md_fractions_102 : decode b_Md_fractions 102 = .ok (.goto 4, 3) := by decide +kernel
theorem d_Md_fractions_105 : decode b_Md_fractions 105 = .ok (.iconst 0, 1) := by decide +kernel
theorem d_Md_fractions_106 : decode b_Md_fractions 106 = .ok (.istore 4, 2) := by decide +kernel
theorem d_Md_fractions_108 : decode b_Md_fractions 108 = .ok (.aload_n 0, 1) := by decide +kernel
theorem d_Md_fractions_109 : decode b_Md_fractions 109 = .ok (.iload 4, 2) := by decide +kernel
theorem d_Md_fractions_111 : decode b_Md_fractions 111 = .ok (.aload_n 0, 1) := by decide +kernel
theorem d_Md_fractions_112 : decode b_Md_fractions 112 = .ok (.invokevirtual 138, 3) := by decide +kernel
theorem d_Md_fractions_115 : decode b_Md_fractions 115 = .ok (.aload_n 0, 1) := by decide +kernel
theorem d_Md_fractions_116 : decode b_Md_fractions 116 = .ok (.getfield 82, 3) := by decide +kernel
theorem d_Md_fractions_119 : decode b_Md_fractions 119 = .ok (.bipush 17, 2) := by decide +kernel
