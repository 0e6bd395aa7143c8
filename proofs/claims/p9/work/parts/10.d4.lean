theorem d_Pr_coprocessor_4 : decode b_Pr_coprocessor 4 = .ok (.lookupswitch 86 #[(0, 36), (4, 57), (8, 80)], 36) := by decide +kernel
theorem d_Pr_coprocessor_40 : decode b_Pr_coprocessor 40 = .ok (.aload_n 0, 1) := by decide +kernel
theorem d_Pr_coprocessor_41 : decode b_Pr_coprocessor 41 = .ok (.iload_n 1, 1) := by decide +kernel
theorem d_Pr_coprocessor_42 : decode b_Pr_coprocessor 42 = .ok (.invokestatic 89, 3) := by decide +kernel
theorem d_Pr_coprocessor_45 : decode b_Pr_coprocessor 45 = .ok (.aload_n 0, 1) := by decide +kernel
theorem d_Pr_coprocessor_46 : decode b_Pr_coprocessor 46 = .ok (.getfield 25, 3) := by decide +kernel
theorem d_Pr_coprocessor_49 : decode b_Pr_coprocessor 49 = .ok (.getfield 273, 3) := by decide +kernel
theorem d_Pr_coprocessor_52 : decode b_Pr_coprocessor 52 = .ok (.iload_n 1, 1) := by decide +kernel
theorem d_Pr_coprocessor_53 : decode b_Pr_coprocessor 53 = .ok (.invokestatic 158, 3) := by decide +kernel
theorem d_Pr_coprocessor_56 : decode b_Pr_coprocessor 56 = .ok (.iaload, 1) := by decide +kernel
theorem d_Pr_coprocessor_57 : decode b_Pr_coprocessor 57 = .ok (.invokevirtual 161, 3) := by decide +kernel
theorem d_Pr_coprocessor_60 : decode b_Pr_coprocessor 60 = .ok (.ireturn, 1) := by decide +kernel
theorem d_Pr_coprocessor_61 : decode b_Pr_coprocessor 61 = .ok (.aload_n 0, 1) := by decide +kernel
theorem d_Pr_coprocessor_62 : decode b_Pr_coprocessor 62 = .ok (.getfield 25, 3) := by decide +kernel
theorem d_Pr_coprocessor_65 : decode b_Pr_coprocessor 65 = .ok (.getfield 273, 3) := by decide +kernel
theorem d_Pr_coprocessor_68 : decode b_Pr_coprocessor 68 = .ok (.iload_n 1, 1) := by decide +kernel
theorem d_Pr_coprocessor_69 : decode b_Pr_coprocessor 69 = .ok (.invokestatic 158, 3) := by decide +kernel
theorem d_Pr_coprocessor_72 : decode b_Pr_coprocessor 72 = .ok (.aload_n 0, 1) := by decide +kernel
theorem d_Pr_coprocessor_73 : decode b_Pr_coprocessor 73 = .ok (.getfield 9, 3) := by decide +kernel
theorem d_Pr_coprocessor_76 : decode b_Pr_coprocessor 76 = .ok (.iload_n 1, 1) := by decide +kernel
theorem d_Pr_coprocessor_77 : decode b_Pr_coprocessor 77 = .ok (.invokestatic 89, 3) := by decide +kernel
theorem d_Pr_coprocessor_80 : decode b_Pr_coprocessor 80 = .ok (.iaload, 1) := by decide +kernel
theorem d_Pr_coprocessor_81 : decode b_Pr_coprocessor 81 = .ok (.iastore, 1) := by decide +kernel
theorem d_Pr_coprocessor_82 : decode b_Pr_coprocessor 82 = .ok (.iconst 0, 1) := by decide +kernel
theorem d_Pr_coprocessor_83 : decode b_Pr_coprocessor 83 = .ok (.ireturn, 1) := by decide +kernel
theorem d_Pr_coprocessor_84 : decode b_Pr_coprocessor 84 = .ok (.aload_n 0, 1) := by decide +kernel
theorem d_Pr_coprocessor_85 : decode b_Pr_coprocessor 85 = .ok (.iload_n 1, 1) := by decide +kernel
theorem d_Pr_coprocessor_86 : decode b_Pr_coprocessor 86 = .ok (.invokevirtual 280, 3) := by decide +kernel
theorem d_Pr_coprocessor_89 : decode b_Pr_coprocessor 89 = .ok (.ireturn, 1) := by decide +kernel
theorem d_Pr_coprocessor_90 : decode b_Pr_coprocessor 90 = .ok (.iconst 3, 1) := by decide +kernel
theorem d_Pr_coprocessor_91 : decode b_Pr_coprocessor 91 = .ok (.ireturn, 1) := by decide +kernel
theorem d_Pr_jump_0 : decode b_Pr_jump 0 = .ok (.aload_n 0, 1) := by decide +kernel
theorem d_Pr_jump_1 : decode b_Pr_jump 1 = .ok (.getfield 68, 3) := by decide +kernel
theorem d_Pr_jump_4 : decode b_Pr_jump 4 = .ok (.ifCond .eq 6, 3) := by decide +kernel
theorem d_Pr_jump_7 : decode b_Pr_jump 7 = .ok (.bipush 8, 2) := by decide +kernel
theorem d_Pr_jump_9 : decode b_Pr_jump 9 = .ok (.ireturn, 1) := by decide +kernel
theorem d_Pr_jump_10 : decode b_Pr_jump 10 = .ok (.iload_n 1, 1) := by decide +kernel
theorem d_Pr_jump_11 : decode b_Pr_jump 11 = .ok (.invokestatic 71, 3) := by decide +kernel
theorem d_Pr_jump_14 : decode b_Pr_jump 14 = .ok (.iconst 3, 1) := by decide +kernel
theorem d_Pr_jump_15 : decode b_Pr_jump 15 = .ok (.if_icmp .ne 16, 3) := by decide +kernel
theorem d_Pr_jump_18 : decode b_Pr_jump 18 = .ok (.aload_n 0, 1) := by decide +kernel
theorem d_Pr_jump_19 : decode b_Pr_jump 19 = .ok (.bipush 31, 2) := by decide +kernel
theorem d_Pr_jump_21 : decode b_Pr_jump 21 = .ok (.aload_n 0, 1) := by decide +kernel
theorem d_Pr_jump_22 : decode b_Pr_jump 22 = .ok (.getfield 48, 3) := by decide +kernel
theorem d_Pr_jump_25 : decode b_Pr_jump 25 = .ok (.bipush 8, 2) := by decide +kernel
theorem d_Pr_jump_27 : decode b_Pr_jump 27 = .ok (.iadd, 1) := by decide +kernel
theorem d_Pr_jump_28 : decode b_Pr_jump 28 = .ok (.invokevirtual 245, 3) := by decide +kernel
theorem d_Pr_jump_31 : decode b_Pr_jump 31 = .ok (.aload_n 0, 1) := by decide +kernel
theorem d_Pr_jump_32 : decode b_Pr_jump 32 = .ok (.aload_n 0, 1) := by decide +kernel
theorem d_Pr_jump_33 : decode b_Pr_jump 33 = .ok (.getfield 29, 3) := by decide +kernel
theorem d_Pr_jump_36 : decode b_Pr_jump 36 = .ok (.ldc_w 256, 3) := by decide +kernel
theorem d_Pr_jump_39 : decode b_Pr_jump 39 = .ok (.iand, 1) := by decide +kernel
theorem d_Pr_jump_40 : decode b_Pr_jump 40 = .ok (.iload_n 1, 1) := by decide +kernel
theorem d_Pr_jump_41 : decode b_Pr_jump 41 = .ok (.ldc_w 257, 3) := by decide +kernel
theorem d_Pr_jump_44 : decode b_Pr_jump 44 = .ok (.iand, 1) := by decide +kernel
theorem d_Pr_jump_45 : decode b_Pr_jump 45 = .ok (.iconst 2, 1) := by decide +kernel
theorem d_Pr_jump_46 : decode b_Pr_jump 46 = .ok (.ishl, 1) := by decide +kernel
theorem d_Pr_jump_47 : decode b_Pr_jump 47 = .ok (.ior, 1) := by decide +kernel
theorem d_Pr_jump_48 : decode b_Pr_jump 48 = .ok (.invokevirtual 172, 3) := by decide +kernel
theorem d_Pr_jump_51 : decode b_Pr_jump 51 = .ok (.ireturn, 1) := by decide +kernel
theorem d_Pr_branchOnRegisters_0 : decode b_Pr_branchOnRegisters 0 = .ok (.aload_n 0, 1) := by decide +kernel
theorem d_Pr_branchOnRegisters_1 : decode b_Pr_branchOnRegisters 1 = .ok (.getfield 68, 3) := by decide +kernel
theorem d_Pr_branchOnRegisters_4 : decode b_Pr_branchOnRegisters 4 = .ok (.ifCond .eq 6, 3) := by decide +kernel
theorem d_Pr_branchOnRegisters_7 : decode b_Pr_branchOnRegisters 7 = .ok (.bipush 8, 2) := by decide +kernel
theorem d_Pr_branchOnRegisters_9 : decode b_Pr_branchOnRegisters 9 = .ok (.ireturn, 1) := by decide +kernel
theorem d_Pr_branchOnRegisters_10 : decode b_Pr_branchOnRegisters 10 = .ok (.aload_n 0, 1) := by decide +kernel
theorem d_Pr_branchOnRegisters_11 : decode b_Pr_branchOnRegisters 11 = .ok (.getfield 9, 3) := by decide +kernel
theorem d_Pr_branchOnRegisters_14 : decode b_Pr_branchOnRegisters 14 = .ok (.iload_n 1, 1) := by decide +kernel
theorem d_Pr_branchOnRegisters_15 : decode b_Pr_branchOnRegisters 15 = .ok (.invokestatic 83, 3) := by decide +kernel
theorem d_Pr_branchOnRegisters_18 : decode b_Pr_branchOnRegisters 18 = .ok (.iaload, 1) := by decide +kernel
theorem d_Pr_branchOnRegisters_19 : decode b_Pr_branchOnRegisters 19 = .ok (.istore_n 2, 1) := by decide +kernel
theorem d_Pr_branchOnRegisters_20 : decode b_Pr_branchOnRegisters 20 = .ok (.aload_n 0, 1) := by decide +kernel
theorem d_Pr_branchOnRegisters_21 : decode b_Pr_branchOnRegisters 21 = .ok (.getfield 9, 3) := by decide +kernel
theorem d_Pr_branchOnRegisters_24 : decode b_Pr_branchOnRegisters 24 = .ok (.iload_n 1, 1) := by decide +kernel
theorem d_Pr_branchOnRegisters_25 : decode b_Pr_branchOnRegisters 25 = .ok (.invokestatic 89, 3) := by decide +kernel
theorem d_Pr_branchOnRegisters_28 : decode b_Pr_branchOnRegisters 28 = .ok (.iaload, 1) := by decide +kernel
theorem d_Pr_branchOnRegisters_29 : decode b_Pr_branchOnRegisters 29 = .ok (.istore_n 3, 1) := by decide +kernel
theorem d_Pr_branchOnRegisters_30 : decode b_Pr_branchOnRegisters 30 = .ok (.iload_n 1, 1) := by decide +kernel
theorem d_Pr_branchOnRegisters_31 : decode b_Pr_branchOnRegisters 31 = .ok (.invokestatic 71, 3) := by decide +kernel
theorem d_Pr_branchOnRegisters_34 : decode b_Pr_branchOnRegisters 34 = .ok (.bipush 20, 2) := by decide +kernel
theorem d_Pr_branchOnRegisters_36 : decode b_Pr_branchOnRegisters 36 = .ok (.if_icmp .lt 7, 3) := by decide +kernel
theorem d_Pr_branchOnRegisters_39 : decode b_Pr_branchOnRegisters 39 = .ok (.iconst 1, 1) := by decide +kernel
theorem d_Pr_branchOnRegisters_40 : decode b_Pr_branchOnRegisters 40 = .ok (.goto 4, 3) := by decide +kernel
theorem d_Pr_branchOnRegisters_43 : decode b_Pr_branchOnRegisters 43 = .ok (.iconst 0, 1) := by decide +kernel
theorem d_Pr_branchOnRegisters_44 : decode b_Pr_branchOnRegisters 44 = .ok (.istore 4, 2) := by decide +kernel
theorem d_Pr_branchOnRegisters_46 : decode b_Pr_branchOnRegisters 46 = .ok (.iload_n 1, 1) := by decide +kernel
theorem d_Pr_branchOnRegisters_47 : decode b_Pr_branchOnRegisters 47 = .ok (.invokestatic 71, 3) := by decide +kernel
theorem d_Pr_branchOnRegisters_50 : decode b_Pr_branchOnRegisters 50 = .ok (.tableswitch 143 4 22 #[90, 108, 126, 143, 143, 143, 143, 143, 143, 143, 143, 143, 143, 143, 143, 143, 90, 108, 126], 90) := by decide +kernel
theorem d_Pr_branchOnRegisters_140 : decode b_Pr_branchOnRegisters 140 = .ok (.aload_n 0, 1) := by decide +kernel
theorem d_Pr_branchOnRegisters_141 : decode b_Pr_branchOnRegisters 141 = .ok (.iload_n 1, 1) := by decide +kernel
theorem d_Pr_branchOnRegisters_142 : decode b_Pr_branchOnRegisters 142 = .ok (.iload_n 2, 1) := by decide +kernel
theorem d_Pr_branchOnRegisters_143 : decode b_Pr_branchOnRegisters 143 = .ok (.iload_n 3, 1) := by decide +kernel
theorem d_Pr_branchOnRegisters_144 : decode b_Pr_branchOnRegisters 144 = .ok (.if_icmp .ne 7, 3) := by decide +kernel
theorem d_Pr_branchOnRegisters_147 : decode b_Pr_branchOnRegisters 147 = .ok (.iconst 1, 1) := by decide +kernel
theorem d_Pr_branchOnRegisters_148 : decode b_Pr_branchOnRegisters 148 = .ok (.goto 4, 3) := by decide +kernel
theorem d_Pr_branchOnRegisters_151 : decode b_Pr_branchOnRegisters 151 = .ok (.iconst 0, 1) := by decide +kernel
theorem d_Pr_branchOnRegisters_152 : decode b_Pr_branchOnRegisters 152 = .ok (.iload 4, 2) := by decide +kernel
theorem d_Pr_branchOnRegisters_154 : decode b_Pr_branchOnRegisters 154 = .ok (.invokevirtual 249, 3) := by decide +kernel
theorem d_Pr_branchOnRegisters_157 : decode b_Pr_branchOnRegisters 157 = .ok (.ireturn, 1) := by decide +kernel
theorem d_Pr_branchOnRegisters_158 : decode b_Pr_branchOnRegisters 158 = .ok (.aload_n 0, 1) := by decide +kernel
theorem d_Pr_branchOnRegisters_159 : decode b_Pr_branchOnRegisters 159 = .ok (.iload_n 1, 1) := by decide +kernel
theorem d_Pr_branchOnRegisters_160 : decode b_Pr_branchOnRegisters 160 = .ok (.iload_n 2, 1) := by decide +kernel
theorem d_Pr_branchOnRegisters_161 : decode b_Pr_branchOnRegisters 161 = .ok (.iload_n 3, 1) := by decide +kernel
theorem d_Pr_branchOnRegisters_162 : decode b_Pr_branchOnRegisters 162 = .ok (.if_icmp .eq 7, 3) := by decide +kernel
theorem d_Pr_branchOnRegisters_165 : decode b_Pr_branchOnRegisters 165 = .ok (.iconst 1, 1) := by decide +kernel
theorem d_Pr_branchOnRegisters_166 : decode b_Pr_branchOnRegisters 166 = .ok (.goto 4, 3) := by decide +kernel
theorem d_Pr_branchOnRegisters_169 : decode b_Pr_branchOnRegisters 169 = .ok (.iconst 0, 1) := by decide +kernel
theorem d_Pr_branchOnRegisters_170 : decode b_Pr_branchOnRegisters 170 = .ok (.iload 4, 2) := by decide +kernel
theorem d_Pr_branchOnRegisters_172 : decode b_Pr_branchOnRegisters 172 = .ok (.invokevirtual 249, 3) := by decide +kernel
theorem d_Pr_branchOnRegisters_175 : decode b_Pr_branchOnRegisters 175 = .ok (.ireturn, 1) := by decide +kernel
theorem d_Pr_branchOnRegisters_176 : decode b_Pr_branchOnRegisters 176 = .ok (.aload_n 0, 1) := by decide +kernel
theorem d_Pr_branchOnRegisters_177 : decode b_Pr_branchOnRegisters 177 = .ok (.iload_n 1, 1) := by decide +kernel
theorem d_Pr_branchOnRegisters_178 : decode b_Pr_branchOnRegisters 178 = .ok (.iload_n 2, 1) := by decide +kernel
theorem d_Pr_branchOnRegisters_179 : decode b_Pr_branchOnRegisters 179 = .ok (.ifCond .gt 7, 3) := by decide +kernel
theorem d_Pr_branchOnRegisters_182 : decode b_Pr_branchOnRegisters 182 = .ok (.iconst 1, 1) := by decide +kernel
theorem d_Pr_branchOnRegisters_183 : decode b_Pr_branchOnRegisters 183 = .ok (.goto 4, 3) := by decide +kernel
theorem d_Pr_branchOnRegisters_186 : decode b_Pr_branchOnRegisters 186 = .ok (.iconst 0, 1) := by decide +kernel
theorem d_Pr_branchOnRegisters_187 : decode b_Pr_branchOnRegisters 187 = .ok (.iload 4, 2) := by decide +kernel
theorem d_Pr_branchOnRegisters_189 : decode b_Pr_branchOnRegisters 189 = .ok (.invokevirtual 249, 3) := by decide +kernel
theorem d_Pr_branchOnRegisters_192 : decode b_Pr_branchOnRegisters 192 = .ok (.ireturn, 1) := by decide +kernel
theorem d_Pr_branchOnRegisters_193 : decode b_Pr_branchOnRegisters 193 = .ok (.aload_n 0, 1) := by decide +kernel
theorem d_Pr_branchOnRegisters_194 : decode b_Pr_branchOnRegisters 194 = .ok (.iload_n 1, 1) := by decide +kernel
theorem d_Pr_branchOnRegisters_195 : decode b_Pr_branchOnRegisters 195 = .ok (.iload_n 2, 1) := by decide +kernel
theorem d_Pr_branchOnRegisters_196 : decode b_Pr_branchOnRegisters 196 = .ok (.ifCond .le 7, 3) := by decide +kernel
theorem d_Pr_branchOnRegisters_199 : decode b_Pr_branchOnRegisters 199 = .ok (.iconst 1, 1) := by decide +kernel
theorem d_Pr_branchOnRegisters_200 : decode b_Pr_branchOnRegisters 200 = .ok (.goto 4, 3) := by decide +kernel
theorem d_Pr_branchOnRegisters_203 : decode b_Pr_branchOnRegisters 203 = .ok (.iconst 0, 1) := by decide +kernel
theorem d_Pr_branchOnRegisters_204 : decode b_Pr_branchOnRegisters 204 = .ok (.iload 4, 2) := by decide +kernel
theorem d_Pr_branchOnRegisters_206 : decode b_Pr_branchOnRegisters 206 = .ok (.invokevirtual 249, 3) := by decide +kernel
theorem d_Pr_branchOnRegisters_209 : decode b_Pr_branchOnRegisters 209 = .ok (.ireturn, 1) := by decide +kernel
theorem d_Pr_immediate_0 : decode b_Pr_immediate 0 = .ok (.aload_n 0, 1) := by decide +kernel
theorem d_Pr_immediate_1 : decode b_Pr_immediate 1 = .ok (.getfield 9, 3) := by decide +kernel
theorem d_Pr_immediate_4 : decode b_Pr_immediate 4 = .ok (.iload_n 1, 1) := by decide +kernel
theorem d_Pr_immediate_5 : decode b_Pr_immediate 5 = .ok (.invokestatic 83, 3) := by decide +kernel
theorem d_Pr_immediate_8 : decode b_Pr_immediate 8 = .ok (.iaload, 1) := by decide +kernel
theorem d_Pr_immediate_9 : decode b_Pr_immediate 9 = .ok (.istore_n 2, 1) := by decide +kernel
theorem d_Pr_immediate_10 : decode b_Pr_immediate 10 = .ok (.iload_n 1, 1) := by decide +kernel
theorem d_Pr_immediate_11 : decode b_Pr_immediate 11 = .ok (.ldc 220, 2) := by decide +kernel
theorem d_Pr_immediate_13 : decode b_Pr_immediate 13 = .ok (.iand, 1) := by decide +kernel
theorem d_Pr_immediate_14 : decode b_Pr_immediate 14 = .ok (.istore_n 3, 1) := by decide +kernel
theorem d_Pr_immediate_15 : decode b_Pr_immediate 15 = .ok (.iload_n 1, 1) := by decide +kernel
theorem d_Pr_immediate_16 : decode b_Pr_immediate 16 = .ok (.invokestatic 71, 3) := by decide +kernel
theorem d_Pr_immediate_19 : decode b_Pr_immediate 19 = .ok (.tableswitch 160 8 14 #[41, 58, 73, 95, 124, 136, 148], 41) := by decide +kernel
theorem d_Pr_immediate_60 : decode b_Pr_immediate 60 = .ok (.aload_n 0, 1) := by decide +kernel
theorem d_Pr_immediate_61 : decode b_Pr_immediate 61 = .ok (.iload_n 1, 1) := by decide +kernel
theorem d_Pr_immediate_62 : decode b_Pr_immediate 62 = .ok (.invokestatic 89, 3) := by decide +kernel
theorem d_Pr_immediate_65 : decode b_Pr_immediate 65 = .ok (.iload_n 2, 1) := by decide +kernel
theorem d_Pr_immediate_66 : decode b_Pr_immediate 66 = .ok (.i2l, 1) := by decide +kernel
theorem d_Pr_immediate_67 : decode b_Pr_immediate 67 = .ok (.iload_n 1, 1) := by decide +kernel
theorem d_Pr_immediate_68 : decode b_Pr_immediate 68 = .ok (.invokestatic 221, 3) := by decide +kernel
theorem d_Pr_immediate_71 : decode b_Pr_immediate 71 = .ok (.i2l, 1) := by decide +kernel
theorem d_Pr_immediate_72 : decode b_Pr_immediate 72 = .ok (.ladd, 1) := by decide +kernel
theorem d_Pr_immediate_73 : decode b_Pr_immediate 73 = .ok (.invokevirtual 216, 3) := by decide +kernel
theorem d_Pr_immediate_76 : decode b_Pr_immediate 76 = .ok (.ireturn, 1) := by decide +kernel
theorem d_Pr_immediate_77 : decode b_Pr_immediate 77 = .ok (.aload_n 0, 1) := by decide +kernel
theorem d_Pr_immediate_78 : decode b_Pr_immediate 78 = .ok (.iload_n 1, 1) := by decide +kernel
theorem d_Pr_immediate_79 : decode b_Pr_immediate 79 = .ok (.invokestatic 89, 3) := by decide +kernel
theorem d_Pr_immediate_82 : decode b_Pr_immediate 82 = .ok (.iload_n 2, 1) := by decide +kernel
theorem d_Pr_immediate_83 : decode b_Pr_immediate 83 = .ok (.iload_n 1, 1) := by decide +kernel
theorem d_Pr_immediate_84 : decode b_Pr_immediate 84 = .ok (.invokestatic 221, 3) := by decide +kernel
theorem d_Pr_immediate_87 : decode b_Pr_immediate 87 = .ok (.iadd, 1) := by decide +kernel
theorem d_Pr_immediate_88 : decode b_Pr_immediate 88 = .ok (.invokevirtual 161, 3) := by decide +kernel
theorem d_Pr_immediate_91 : decode b_Pr_immediate 91 = .ok (.ireturn, 1) := by decide +kernel
theorem d_Pr_immediate_92 : decode b_Pr_immediate 92 = .ok (.aload_n 0, 1) := by decide +kernel
theorem d_Pr_immediate_93 : decode b_Pr_immediate 93 = .ok (.iload_n 1, 1) := by decide +kernel
theorem d_Pr_immediate_94 : decode b_Pr_immediate 94 = .ok (.invokestatic 89, 3) := by decide +kernel
theorem d_Pr_immediate_97 : decode b_Pr_immediate 97 = .ok (.iload_n 2, 1) := by decide +kernel
theorem d_Pr_immediate_98 : decode b_Pr_immediate 98 = .ok (.iload_n 1, 1) := by decide +kernel
theorem d_Pr_immediate_99 : decode b_Pr_immediate 99 = .ok (.invokestatic 221, 3) := by decide +kernel
theorem d_Pr_immediate_102 : decode b_Pr_immediate 102 = .ok (.if_icmp .ge 7, 3) := by decide +kernel
theorem d_Pr_immediate_105 : decode b_Pr_immediate 105 = .ok (.iconst 1, 1) := by decide +kernel
theorem d_Pr_immediate_106 : decode b_Pr_immediate 106 = .ok (.goto 4, 3) := by decide +kernel
theorem d_Pr_immediate_109 : decode b_Pr_immediate 109 = .ok (.iconst 0, 1) := by decide +kernel
theorem d_Pr_immediate_110 : decode b_Pr_immediate 110 = .ok (.invokevirtual 161, 3) := by decide +kernel
theorem d_Pr_immediate_113 : decode b_Pr_immediate 113 = .ok (.ireturn, 1) := by decide +kernel
theorem d_Pr_immediate_114 : decode b_Pr_immediate 114 = .ok (.aload_n 0, 1) := by decide +kernel
theorem d_Pr_immediate_115 : decode b_Pr_immediate 115 = .ok (.iload_n 1, 1) := by decide +kernel
theorem d_Pr_immediate_116 : decode b_Pr_immediate 116 = .ok (.invokestatic 89, 3) := by decide +kernel
theorem d_Pr_immediate_119 : decode b_Pr_immediate 119 = .ok (.iload_n 2, 1) := by decide +kernel
theorem d_Pr_immediate_120 : decode b_Pr_immediate 120 = .ok (.invokestatic 208, 3) := by decide +kernel
theorem d_Pr_immediate_123 : decode b_Pr_immediate 123 = .ok (.iload_n 1, 1) := by decide +kernel
theorem d_Pr_immediate_124 : decode b_Pr_immediate 124 = .ok (.invokestatic 221, 3) := by decide +kernel
theorem d_Pr_immediate_127 : decode b_Pr_immediate 127 = .ok (.invokestatic 208, 3) := by decide +kernel
theorem d_Pr_immediate_130 : decode b_Pr_immediate 130 = .ok (.lcmp, 1) := by decide +kernel
theorem d_Pr_immediate_131 : decode b_Pr_immediate 131 = .ok (.ifCond .ge 7, 3) := by decide +kernel
theorem d_Pr_immediate_134 : decode b_Pr_immediate 134 = .ok (.iconst 1, 1) := by decide +kernel
theorem d_Pr_immediate_135 : decode b_Pr_immediate 135 = .ok (.goto 4, 3) := by decide +kernel
theorem d_Pr_immediate_138 : decode b_Pr_immediate 138 = .ok (.iconst 0, 1) := by decide +kernel
theorem d_Pr_immediate_139 : decode b_Pr_immediate 139 = .ok (.invokevirtual 161, 3) := by decide +kernel
theorem d_Pr_immediate_142 : decode b_Pr_immediate 142 = .ok (.ireturn, 1) := by decide +kernel
theorem d_Pr_immediate_143 : decode b_Pr_immediate 143 = .ok (.aload_n 0, 1) := by decide +kernel
theorem d_Pr_immediate_144 : decode b_Pr_immediate 144 = .ok (.iload_n 1, 1) := by decide +kernel
theorem d_Pr_immediate_145 : decode b_Pr_immediate 145 = .ok (.invokestatic 89, 3) := by decide +kernel
theorem d_Pr_immediate_148 : decode b_Pr_immediate 148 = .ok (.iload_n 2, 1) := by decide +kernel
theorem d_Pr_immediate_149 : decode b_Pr_immediate 149 = .ok (.iload_n 3, 1) := by decide +kernel
theorem d_Pr_immediate_150 : decode b_Pr_immediate 150 = .ok (.iand, 1) := by decide +kernel
theorem d_Pr_immediate_151 : decode b_Pr_immediate 151 = .ok (.invokevirtual 161, 3) := by decide +kernel
theorem d_Pr_immediate_154 : decode b_Pr_immediate 154 = .ok (.ireturn, 1) := by decide +kernel
theorem d_Pr_immediate_155 : decode b_Pr_immediate 155 = .ok (.aload_n 0, 1) := by decide +kernel
theorem d_Pr_immediate_156 : decode b_Pr_immediate 156 = .ok (.iload_n 1, 1) := by decide +kernel
theorem d_Pr_immediate_157 : decode b_Pr_immediate 157 = .ok (.invokestatic 89, 3) := by decide +kernel
theorem d_Pr_immediate_160 : decode b_Pr_immediate 160 = .ok (.iload_n 2, 1) := by decide +kernel
theorem d_Pr_immediate_161 : decode b_Pr_immediate 161 = .ok (.iload_n 3, 1) := by decide +kernel
theorem d_Pr_immediate_162 : decode b_Pr_immediate 162 = .ok (.ior, 1) := by decide +kernel
theorem d_Pr_immediate_163 : decode b_Pr_immediate 163 = .ok (.invokevirtual 161, 3) := by decide +kernel
theorem d_Pr_immediate_166 : decode b_Pr_immediate 166 = .ok (.ireturn, 1) := by decide +kernel
theorem d_Pr_immediate_167 : decode b_Pr_immediate 167 = .ok (.aload_n 0, 1) := by decide +kernel
theorem d_Pr_immediate_168 : decode b_Pr_immediate 168 = .ok (.iload_n 1, 1) := by decide +kernel
theorem d_Pr_immediate_169 : decode b_Pr_immediate 169 = .ok (.invokestatic 89, 3) := by decide +kernel
theorem d_Pr_immediate_172 : decode b_Pr_immediate 172 = .ok (.iload_n 2, 1) := by decide +kernel
theorem d_Pr_immediate_173 : decode b_Pr_immediate 173 = .ok (.iload_n 3, 1) := by decide +kernel
theorem d_Pr_immediate_174 : decode b_Pr_immediate 174 = .ok (.ixor, 1) := by decide +kernel
theorem d_Pr_immediate_175 : decode b_Pr_immediate 175 = .ok (.invokevirtual 161, 3) := by decide +kernel
theorem d_Pr_immediate_178 : decode b_Pr_immediate 178 = .ok (.ireturn, 1) := by decide +kernel
theorem d_Pr_immediate_179 : decode b_Pr_immediate 179 = .ok (.aload_n 0, 1) := by decide +kernel
theorem d_Pr_immediate_180 : decode b_Pr_immediate 180 = .ok (.iload_n 1, 1) := by decide +kernel
theorem d_Pr_immediate_181 : decode b_Pr_immediate 181 = .ok (.invokestatic 89, 3) := by decide +kernel
theorem d_Pr_immediate_184 : decode b_Pr_immediate 184 = .ok (.iload_n 3, 1) := by decide +kernel
theorem d_Pr_immediate_185 : decode b_Pr_immediate 185 = .ok (.bipush 16, 2) := by decide +kernel
theorem d_Pr_immediate_187 : decode b_Pr_immediate 187 = .ok (.ishl, 1) := by decide +kernel
theorem d_Pr_immediate_188 : decode b_Pr_immediate 188 = .ok (.invokevirtual 161, 3) := by decide +kernel
theorem d_Pr_immediate_191 : decode b_Pr_immediate 191 = .ok (.ireturn, 1) := by decide +kernel
theorem d_Pr_load_0 : decode b_Pr_load 0 = .ok (.aload_n 0, 1) := by decide +kernel
theorem d_Pr_load_1 : decode b_Pr_load 1 = .ok (.iload_n 1, 1) := by decide +kernel
theorem d_Pr_load_2 : decode b_Pr_load 2 = .ok (.invokevirtual 261, 3) := by decide +kernel
theorem d_Pr_load_5 : decode b_Pr_load 5 = .ok (.istore_n 2, 1) := by decide +kernel
theorem d_Pr_load_6 : decode b_Pr_load 6 = .ok (.iload_n 1, 1) := by decide +kernel
theorem d_Pr_load_7 : decode b_Pr_load 7 = .ok (.invokestatic 264, 3) := by decide +kernel
theorem d_Pr_load_10 : decode b_Pr_load 10 = .ok (.istore_n 3, 1) := by decide +kernel
theorem d_Pr_load_11 : decode b_Pr_load 11 = .ok (.aload_n 0, 1) := by decide +kernel
theorem d_Pr_load_12 : decode b_Pr_load 12 = .ok (.getfield 33, 3) := by decide +kernel
theorem d_Pr_load_15 : decode b_Pr_load 15 = .ok (.iload_n 2, 1) := by decide +kernel
theorem d_Pr_load_16 : decode b_Pr_load 16 = .ok (.iload_n 3, 1) := by decide +kernel
theorem d_Pr_load_17 : decode b_Pr_load 17 = .ok (.invokevirtual 51, 3) := by decide +kernel
theorem d_Pr_load_20 : decode b_Pr_load 20 = .ok (.ifCond .ne 5, 3) := by decide +kernel
theorem d_Pr_load_23 : decode b_Pr_load 23 = .ok (.iconst 1, 1) := by decide +kernel
theorem d_Pr_load_24 : decode b_Pr_load 24 = .ok (.ireturn, 1) := by decide +kernel
theorem d_Pr_load_25 : decode b_Pr_load 25 = .ok (.aload_n 0, 1) := by decide +kernel
theorem d_Pr_load_26 : decode b_Pr_load 26 = .ok (.getfield 33, 3) := by decide +kernel
theorem d_Pr_load_29 : decode b_Pr_load 29 = .ok (.iload_n 2, 1) := by decide +kernel
theorem d_Pr_load_30 : decode b_Pr_load 30 = .ok (.iload_n 3, 1) := by decide +kernel
theorem d_Pr_load_31 : decode b_Pr_load 31 = .ok (.invokevirtual 57, 3) := by decide +kernel
theorem d_Pr_load_34 : decode b_Pr_load 34 = .ok (.istore 4, 2) := by decide +kernel
theorem d_Pr_load_36 : decode b_Pr_load 36 = .ok (.iload_n 1, 1) := by decide +kernel
theorem d_Pr_load_37 : decode b_Pr_load 37 = .ok (.invokestatic 71, 3) := by decide +kernel
theorem d_Pr_load_40 : decode b_Pr_load 40 = .ok (.bipush 36, 2) := by decide +kernel
theorem d_Pr_load_42 : decode b_Pr_load 42 = .ok (.if_icmp .ge 7, 3) := by decide +kernel
theorem d_Pr_load_45 : decode b_Pr_load 45 = .ok (.iconst 1, 1) := by decide +kernel
theorem d_Pr_load_46 : decode b_Pr_load 46 = .ok (.goto 4, 3) := by decide +kernel
theorem d_Pr_load_49 : decode b_Pr_load 49 = .ok (.iconst 0, 1) := by decide +kernel
theorem d_Pr_load_50 : decode b_Pr_load 50 = .ok (.istore 5, 2) := by decide +kernel
theorem d_Pr_load_52 : decode b_Pr_load 52 = .ok (.bipush 32, 2) := by decide +kernel
theorem d_Pr_load_54 : decode b_Pr_load 54 = .ok (.bipush 8, 2) := by decide +kernel
theorem d_Pr_load_56 : decode b_Pr_load 56 = .ok (.iload_n 3, 1) := by decide +kernel
theorem d_Pr_load_57 : decode b_Pr_load 57 = .ok (.imul, 1) := by decide +kernel
theorem d_Pr_load_58 : decode b_Pr_load 58 = .ok (.isub, 1) := by decide +kernel
theorem d_Pr_load_59 : decode b_Pr_load 59 = .ok (.istore 6, 2) := by decide +kernel
theorem d_Pr_load_61 : decode b_Pr_load 61 = .ok (.aload_n 0, 1) := by decide +kernel
theorem d_Pr_load_62 : decode b_Pr_load 62 = .ok (.dup, 1) := by decide +kernel
theorem d_Pr_load_63 : decode b_Pr_load 63 = .ok (.getfield 267, 3) := by decide +kernel
theorem d_Pr_load_66 : decode b_Pr_load 66 = .ok (.iconst 1, 1) := by decide +kernel
theorem d_Pr_load_67 : decode b_Pr_load 67 = .ok (.iadd, 1) := by decide +kernel
theorem d_Pr_load_68 : decode b_Pr_load 68 = .ok (.putfield 267, 3) := by decide +kernel
theorem d_Pr_load_71 : decode b_Pr_load 71 = .ok (.aload_n 0, 1) := by decide +kernel
theorem d_Pr_load_72 : decode b_Pr_load 72 = .ok (.iload_n 1, 1) := by decide +kernel
theorem d_Pr_load_73 : decode b_Pr_load 73 = .ok (.invokestatic 89, 3) := by decide +kernel
theorem d_Pr_load_76 : decode b_Pr_load 76 = .ok (.iload 5, 2) := by decide +kernel
theorem d_Pr_load_78 : decode b_Pr_load 78 = .ok (.ifCond .eq 14, 3) := by decide +kernel
theorem d_Pr_load_81 : decode b_Pr_load 81 = .ok (.iload 4, 2) := by decide +kernel
theorem d_Pr_load_83 : decode b_Pr_load 83 = .ok (.iload 6, 2) := by decide +kernel
theorem d_Pr_load_85 : decode b_Pr_load 85 = .ok (.ishl, 1) := by decide +kernel
theorem d_Pr_load_86 : decode b_Pr_load 86 = .ok (.iload 6, 2) := by decide +kernel
theorem d_Pr_load_88 : decode b_Pr_load 88 = .ok (.ishr, 1) := by decide +kernel
theorem d_Pr_load_89 : decode b_Pr_load 89 = .ok (.goto 5, 3) := by decide +kernel
theorem d_Pr_load_92 : decode b_Pr_load 92 = .ok (.iload 4, 2) := by decide +kernel
theorem d_Pr_load_94 : decode b_Pr_load 94 = .ok (.invokevirtual 161, 3) := by decide +kernel
theorem d_Pr_load_97 : decode b_Pr_load 97 = .ok (.ireturn, 1) := by decide +kernel
theorem d_Pr_loadPart_0 : decode b_Pr_loadPart 0 = .ok (.aload_n 0, 1) := by decide +kernel
theorem d_Pr_loadPart_1 : decode b_Pr_loadPart 1 = .ok (.iload_n 1, 1) := by decide +kernel
theorem d_Pr_loadPart_2 : decode b_Pr_loadPart 2 = .ok (.invokevirtual 261, 3) := by decide +kernel
theorem d_Pr_loadPart_5 : decode b_Pr_loadPart 5 = .ok (.istore_n 2, 1) := by decide +kernel
theorem d_Pr_loadPart_6 : decode b_Pr_loadPart 6 = .ok (.aload_n 0, 1) := by decide +kernel
theorem d_Pr_loadPart_7 : decode b_Pr_loadPart 7 = .ok (.getfield 33, 3) := by decide +kernel
theorem d_Pr_loadPart_10 : decode b_Pr_loadPart 10 = .ok (.iload_n 2, 1) := by decide +kernel
theorem d_Pr_loadPart_11 : decode b_Pr_loadPart 11 = .ok (.iconst 1, 1) := by decide +kernel
theorem d_Pr_loadPart_12 : decode b_Pr_loadPart 12 = .ok (.invokevirtual 51, 3) := by decide +kernel
theorem d_Pr_loadPart_15 : decode b_Pr_loadPart 15 = .ok (.ifCond .ne 5, 3) := by decide +kernel
theorem d_Pr_loadPart_18 : decode b_Pr_loadPart 18 = .ok (.iconst 1, 1) := by decide +kernel
theorem d_Pr_loadPart_19 : decode b_Pr_loadPart 19 = .ok (.ireturn, 1) := by decide +kernel
theorem d_Pr_loadPart_20 : decode b_Pr_loadPart 20 = .ok (.aload_n 0, 1) := by decide +kernel
theorem d_Pr_loadPart_21 : decode b_Pr_loadPart 21 = .ok (.getfield 33, 3) := by decide +kernel
theorem d_Pr_loadPart_24 : decode b_Pr_loadPart 24 = .ok (.iload_n 2, 1) := by decide +kernel
theorem d_Pr_loadPart_25 : decode b_Pr_loadPart 25 = .ok (.bipush (-4), 2) := by decide +kernel
theorem d_Pr_loadPart_27 : decode b_Pr_loadPart 27 = .ok (.iand, 1) := by decide +kernel
theorem d_Pr_loadPart_28 : decode b_Pr_loadPart 28 = .ok (.iconst 4, 1) := by decide +kernel
theorem d_Pr_loadPart_29 : decode b_Pr_loadPart 29 = .ok (.invokevirtual 57, 3) := by decide +kernel
theorem d_Pr_loadPart_32 : decode b_Pr_loadPart 32 = .ok (.istore_n 3, 1) := by decide +kernel
theorem d_Pr_loadPart_33 : decode b_Pr_loadPart 33 = .ok (.aload_n 0, 1) := by decide +kernel
theorem d_Pr_loadPart_34 : decode b_Pr_loadPart 34 = .ok (.getfield 9, 3) := by decide +kernel
theorem d_Pr_loadPart_37 : decode b_Pr_loadPart 37 = .ok (.iload_n 1, 1) := by decide +kernel
theorem d_Pr_loadPart_38 : decode b_Pr_loadPart 38 = .ok (.invokestatic 89, 3) := by decide +kernel
theorem d_Pr_loadPart_41 : decode b_Pr_loadPart 41 = .ok (.iaload, 1) := by decide +kernel
theorem d_Pr_loadPart_42 : decode b_Pr_loadPart 42 = .ok (.istore 4, 2) := by decide +kernel
theorem d_Pr_loadPart_44 : decode b_Pr_loadPart 44 = .ok (.iload_n 2, 1) := by decide +kernel
theorem d_Pr_loadPart_45 : decode b_Pr_loadPart 45 = .ok (.iconst 3, 1) := by decide +kernel
theorem d_Pr_loadPart_46 : decode b_Pr_loadPart 46 = .ok (.iand, 1) := by decide +kernel
theorem d_Pr_loadPart_47 : decode b_Pr_loadPart 47 = .ok (.bipush 8, 2) := by decide +kernel
theorem d_Pr_loadPart_49 : decode b_Pr_loadPart 49 = .ok (.imul, 1) := by decide +kernel
theorem d_Pr_loadPart_50 : decode b_Pr_loadPart 50 = .ok (.istore 5, 2) := by decide +kernel
theorem d_Pr_loadPart_52 : decode b_Pr_loadPart 52 = .ok (.bipush 24, 2) := by decide +kernel
theorem d_Pr_loadPart_54 : decode b_Pr_loadPart 54 = .ok (.iload 5, 2) := by decide +kernel
theorem d_Pr_loadPart_56 : decode b_Pr_loadPart 56 = .ok (.isub, 1) := by decide +kernel
theorem d_Pr_loadPart_57 : decode b_Pr_loadPart 57 = .ok (.istore 6, 2) := by decide +kernel
theorem d_Pr_loadPart_59 : decode b_Pr_loadPart 59 = .ok (.aload_n 0, 1) := by decide +kernel
theorem d_Pr_loadPart_60 : decode b_Pr_loadPart 60 = .ok (.dup, 1) := by decide +kernel
theorem d_Pr_loadPart_61 : decode b_Pr_loadPart 61 = .ok (.getfield 267, 3) := by decide +kernel
theorem d_Pr_loadPart_64 : decode b_Pr_loadPart 64 = .ok (.iconst 1, 1) := by decide +kernel
theorem d_Pr_loadPart_65 : decode b_Pr_loadPart 65 = .ok (.iadd, 1) := by decide +kernel
theorem d_Pr_loadPart_66 : decode b_Pr_loadPart 66 = .ok (.putfield 267, 3) := by decide +kernel
theorem d_Pr_loadPart_69 : decode b_Pr_loadPart 69 = .ok (.aload_n 0, 1) := by decide +kernel
theorem d_Pr_loadPart_70 : decode b_Pr_loadPart 70 = .ok (.iload_n 1, 1) := by decide +kernel
theorem d_Pr_loadPart_71 : decode b_Pr_loadPart 71 = .ok (.invokestatic 89, 3) := by decide +kernel
theorem d_Pr_loadPart_74 : decode b_Pr_loadPart 74 = .ok (.iload_n 1, 1) := by decide +kernel
theorem d_Pr_loadPart_75 : decode b_Pr_loadPart 75 = .ok (.invokestatic 71, 3) := by decide +kernel
theorem d_Pr_loadPart_78 : decode b_Pr_loadPart 78 = .ok (.bipush 34, 2) := by decide +kernel
theorem d_Pr_loadPart_80 : decode b_Pr_loadPart 80 = .ok (.if_icmp .ne 20, 3) := by decide +kernel
theorem d_Pr_loadPart_83 : decode b_Pr_loadPart 83 = .ok (.iload_n 3, 1) := by decide +kernel
theorem d_Pr_loadPart_84 : decode b_Pr_loadPart 84 = .ok (.iload 5, 2) := by decide +kernel
theorem d_Pr_loadPart_86 : decode b_Pr_loadPart 86 = .ok (.ishl, 1) := by decide +kernel
theorem d_Pr_loadPart_87 : decode b_Pr_loadPart 87 = .ok (.iload 4, 2) := by decide +kernel
theorem d_Pr_loadPart_89 : decode b_Pr_loadPart 89 = .ok (.iconst (-1), 1) := by decide +kernel
theorem d_Pr_loadPart_90 : decode b_Pr_loadPart 90 = .ok (.iload 5, 2) := by decide +kernel
theorem d_Pr_loadPart_92 : decode b_Pr_loadPart 92 = .ok (.ishl, 1) := by decide +kernel
theorem d_Pr_loadPart_93 : decode b_Pr_loadPart 93 = .ok (.iconst (-1), 1) := by decide +kernel
theorem d_Pr_loadPart_94 : decode b_Pr_loadPart 94 = .ok (.ixor, 1) := by decide +kernel
theorem d_Pr_loadPart_95 : decode b_Pr_loadPart 95 = .ok (.iand, 1) := by decide +kernel
theorem d_Pr_loadPart_96 : decode b_Pr_loadPart 96 = .ok (.ior, 1) := by decide +kernel
theorem d_Pr_loadPart_97 : decode b_Pr_loadPart 97 = .ok (.goto 17, 3) := by decide +kernel
theorem d_Pr_loadPart_100 : decode b_Pr_loadPart 100 = .ok (.iload_n 3, 1) := by decide +kernel
theorem d_Pr_loadPart_101 : decode b_Pr_loadPart 101 = .ok (.iload 6, 2) := by decide +kernel
theorem d_Pr_loadPart_103 : decode b_Pr_loadPart 103 = .ok (.iushr, 1) := by decide +kernel
theorem d_Pr_loadPart_104 : decode b_Pr_loadPart 104 = .ok (.iload 4, 2) := by decide +kernel
theorem d_Pr_loadPart_106 : decode b_Pr_loadPart 106 = .ok (.iconst (-1), 1) := by decide +kernel
theorem d_Pr_loadPart_107 : decode b_Pr_loadPart 107 = .ok (.iload 6, 2) := by decide +kernel
theorem d_Pr_loadPart_109 : decode b_Pr_loadPart 109 = .ok (.iushr, 1) := by decide +kernel
theorem d_Pr_loadPart_110 : decode b_Pr_loadPart 110 = .ok (.iconst (-1), 1) := by decide +kernel
theorem d_Pr_loadPart_111 : decode b_Pr_loadPart 111 = .ok (.ixor, 1) := by decide +kernel
theorem d_Pr_loadPart_112 : decode b_Pr_loadPart 112 = .ok (.iand, 1) := by decide +kernel
theorem d_Pr_loadPart_113 : decode b_Pr_loadPart 113 = .ok (.ior, 1) := by decide +kernel
theorem d_Pr_loadPart_114 : decode b_Pr_loadPart 114 = .ok (.invokevirtual 161, 3) := by decide +kernel
theorem d_Pr_loadPart_117 : decode b_Pr_loadPart 117 = .ok (.ireturn, 1) := by decide +kernel
theorem d_Pr_loadLinked_0 : decode b_Pr_loadLinked 0 = .ok (.aload_n 0, 1) := by decide +kernel
theorem d_Pr_loadLinked_1 : decode b_Pr_loadLinked 1 = .ok (.iload_n 1, 1) := by decide +kernel
theorem d_Pr_loadLinked_2 : decode b_Pr_loadLinked 2 = .ok (.invokevirtual 261, 3) := by decide +kernel
theorem d_Pr_loadLinked_5 : decode b_Pr_loadLinked 5 = .ok (.istore_n 2, 1) := by decide +kernel
theorem d_Pr_loadLinked_6 : decode b_Pr_loadLinked 6 = .ok (.aload_n 0, 1) := by decide +kernel
theorem d_Pr_loadLinked_7 : decode b_Pr_loadLinked 7 = .ok (.getfield 33, 3) := by decide +kernel
theorem d_Pr_loadLinked_10 : decode b_Pr_loadLinked 10 = .ok (.iload_n 2, 1) := by decide +kernel
theorem d_Pr_loadLinked_11 : decode b_Pr_loadLinked 11 = .ok (.iconst 4, 1) := by decide +kernel
theorem d_Pr_loadLinked_12 : decode b_Pr_loadLinked 12 = .ok (.invokevirtual 51, 3) := by decide +kernel
theorem d_Pr_loadLinked_15 : decode b_Pr_loadLinked 15 = .ok (.ifCond .ne 5, 3) := by decide +kernel
theorem d_Pr_loadLinked_18 : decode b_Pr_loadLinked 18 = .ok (.iconst 1, 1) := by decide +kernel
theorem d_Pr_loadLinked_19 : decode b_Pr_loadLinked 19 = .ok (.ireturn, 1) := by decide +kernel
theorem d_Pr_loadLinked_20 : decode b_Pr_loadLinked 20 = .ok (.aload_n 0, 1) := by decide +kernel
theorem d_Pr_loadLinked_21 : decode b_Pr_loadLinked 21 = .ok (.iconst 1, 1) := by decide +kernel
theorem d_Pr_loadLinked_22 : decode b_Pr_loadLinked 22 = .ok (.putfield 41, 3) := by decide +kernel
theorem d_Pr_loadLinked_25 : decode b_Pr_loadLinked 25 = .ok (.aload_n 0, 1) := by decide +kernel
theorem d_Pr_loadLinked_26 : decode b_Pr_loadLinked 26 = .ok (.iload_n 2, 1) := by decide +kernel
theorem d_Pr_loadLinked_27 : decode b_Pr_loadLinked 27 = .ok (.putfield 270, 3) := by decide +kernel
theorem d_Pr_loadLinked_30 : decode b_Pr_loadLinked 30 = .ok (.aload_n 0, 1) := by decide +kernel
theorem d_Pr_loadLinked_31 : decode b_Pr_loadLinked 31 = .ok (.dup, 1) := by decide +kernel
theorem d_Pr_loadLinked_32 : decode b_Pr_loadLinked 32 = .ok (.getfield 267, 3) := by decide +kernel
theorem d_Pr_loadLinked_35 : decode b_Pr_loadLinked 35 = .ok (.iconst 1, 1) := by decide +kernel
theorem d_Pr_loadLinked_36 : decode b_Pr_loadLinked 36 = .ok (.iadd, 1) := by decide +kernel
theorem d_Pr_loadLinked_37 : decode b_Pr_loadLinked 37 = .ok (.putfield 267, 3) := by decide +kernel
theorem d_Pr_loadLinked_40 : decode b_Pr_loadLinked 40 = .ok (.aload_n 0, 1) := by decide +kernel
theorem d_Pr_loadLinked_41 : decode b_Pr_loadLinked 41 = .ok (.iload_n 1, 1) := by decide +kernel
theorem d_Pr_loadLinked_42 : decode b_Pr_loadLinked 42 = .ok (.invokestatic 89, 3) := by decide +kernel
theorem d_Pr_loadLinked_45 : decode b_Pr_loadLinked 45 = .ok (.aload_n 0, 1) := by decide +kernel
theorem d_Pr_loadLinked_46 : decode b_Pr_loadLinked 46 = .ok (.getfield 33, 3) := by decide +kernel
theorem d_Pr_loadLinked_49 : decode b_Pr_loadLinked 49 = .ok (.iload_n 2, 1) := by decide +kernel
theorem d_Pr_loadLinked_50 : decode b_Pr_loadLinked 50 = .ok (.iconst 4, 1) := by decide +kernel
theorem d_Pr_loadLinked_51 : decode b_Pr_loadLinked 51 = .ok (.invokevirtual 57, 3) := by decide +kernel
theorem d_Pr_loadLinked_54 : decode b_Pr_loadLinked 54 = .ok (.invokevirtual 161, 3) := by decide +kernel
theorem d_Pr_loadLinked_57 : decode b_Pr_loadLinked 57 = .ok (.ireturn, 1) := by decide +kernel
theorem d_Pr_loadSingle_0 : decode b_Pr_loadSingle 0 = .ok (.aload_n 0, 1) := by decide +kernel
theorem d_Pr_loadSingle_1 : decode b_Pr_loadSingle 1 = .ok (.iload_n 1, 1) := by decide +kernel
theorem d_Pr_loadSingle_2 : decode b_Pr_loadSingle 2 = .ok (.invokevirtual 261, 3) := by decide +kernel
theorem d_Pr_loadSingle_5 : decode b_Pr_loadSingle 5 = .ok (.istore_n 2, 1) := by decide +kernel
theorem d_Pr_loadSingle_6 : decode b_Pr_loadSingle 6 = .ok (.aload_n 0, 1) := by decide +kernel
theorem d_Pr_loadSingle_7 : decode b_Pr_loadSingle 7 = .ok (.getfield 33, 3) := by decide +kernel
theorem d_Pr_loadSingle_10 : decode b_Pr_loadSingle 10 = .ok (.iload_n 2, 1) := by decide +kernel
theorem d_Pr_loadSingle_11 : decode b_Pr_loadSingle 11 = .ok (.iconst 4, 1) := by decide +kernel
theorem d_Pr_loadSingle_12 : decode b_Pr_loadSingle 12 = .ok (.invokevirtual 51, 3) := by decide +kernel
theorem d_Pr_loadSingle_15 : decode b_Pr_loadSingle 15 = .ok (.ifCond .ne 5, 3) := by decide +kernel
theorem d_Pr_loadSingle_18 : decode b_Pr_loadSingle 18 = .ok (.iconst 1, 1) := by decide +kernel
theorem d_Pr_loadSingle_19 : decode b_Pr_loadSingle 19 = .ok (.ireturn, 1) := by decide +kernel
theorem d_Pr_loadSingle_20 : decode b_Pr_loadSingle 20 = .ok (.aload_n 0, 1) := by decide +kernel
theorem d_Pr_loadSingle_21 : decode b_Pr_loadSingle 21 = .ok (.dup, 1) := by decide +kernel
theorem d_Pr_loadSingle_22 : decode b_Pr_loadSingle 22 = .ok (.getfield 267, 3) := by decide +kernel
theorem d_Pr_loadSingle_25 : decode b_Pr_loadSingle 25 = .ok (.iconst 1, 1) := by decide +kernel
theorem d_Pr_loadSingle_26 : decode b_Pr_loadSingle 26 = .ok (.iadd, 1) := by decide +kernel
theorem d_Pr_loadSingle_27 : decode b_Pr_loadSingle 27 = .ok (.putfield 267, 3) := by decide +kernel
theorem d_Pr_loadSingle_30 : decode b_Pr_loadSingle 30 = .ok (.aload_n 0, 1) := by decide +kernel
theorem d_Pr_loadSingle_31 : decode b_Pr_loadSingle 31 = .ok (.getfield 25, 3) := by decide +kernel
theorem d_Pr_loadSingle_34 : decode b_Pr_loadSingle 34 = .ok (.getfield 273, 3) := by decide +kernel
theorem d_Pr_loadSingle_37 : decode b_Pr_loadSingle 37 = .ok (.iload_n 1, 1) := by decide +kernel
theorem d_Pr_loadSingle_38 : decode b_Pr_loadSingle 38 = .ok (.invokestatic 89, 3) := by decide +kernel
theorem d_Pr_loadSingle_41 : decode b_Pr_loadSingle 41 = .ok (.aload_n 0, 1) := by decide +kernel
theorem d_Pr_loadSingle_42 : decode b_Pr_loadSingle 42 = .ok (.getfield 33, 3) := by decide +kernel
theorem d_Pr_loadSingle_45 : decode b_Pr_loadSingle 45 = .ok (.iload_n 2, 1) := by decide +kernel
theorem d_Pr_loadSingle_46 : decode b_Pr_loadSingle 46 = .ok (.iconst 4, 1) := by decide +kernel
theorem d_Pr_loadSingle_47 : decode b_Pr_loadSingle 47 = .ok (.invokevirtual 57, 3) := by decide +kernel
theorem d_Pr_loadSingle_50 : decode b_Pr_loadSingle 50 = .ok (.iastore, 1) := by decide +kernel
theorem d_Pr_loadSingle_51 : decode b_Pr_loadSingle 51 = .ok (.iconst 0, 1) := by decide +kernel
theorem d_Pr_loadSingle_52 : decode b_Pr_loadSingle 52 = .ok (.ireturn, 1) := by decide +kernel
theorem d_Pr_loadDouble_0 : decode b_Pr_loadDouble 0 = .ok (.aload_n 0, 1) := by decide +kernel
theorem d_Pr_loadDouble_1 : decode b_Pr_loadDouble 1 = .ok (.iload_n 1, 1) := by decide +kernel
theorem d_Pr_loadDouble_2 : decode b_Pr_loadDouble 2 = .ok (.invokevirtual 261, 3) := by decide +kernel
theorem d_Pr_loadDouble_5 : decode b_Pr_loadDouble 5 = .ok (.istore_n 2, 1) := by decide +kernel
theorem d_Pr_loadDouble_6 : decode b_Pr_loadDouble 6 = .ok (.iload_n 1, 1) := by decide +kernel
theorem d_Pr_loadDouble_7 : decode b_Pr_loadDouble 7 = .ok (.invokestatic 89, 3) := by decide +kernel
theorem d_Pr_loadDouble_10 : decode b_Pr_loadDouble 10 = .ok (.istore_n 3, 1) := by decide +kernel
theorem d_Pr_loadDouble_11 : decode b_Pr_loadDouble 11 = .ok (.iload_n 3, 1) := by decide +kernel
theorem d_Pr_loadDouble_12 : decode b_Pr_loadDouble 12 = .ok (.iconst 1, 1) := by decide +kernel
theorem d_Pr_loadDouble_13 : decode b_Pr_loadDouble 13 = .ok (.iand, 1) := by decide +kernel
theorem d_Pr_loadDouble_14 : decode b_Pr_loadDouble 14 = .ok (.ifCond .eq 6, 3) := by decide +kernel
theorem d_Pr_loadDouble_17 : decode b_Pr_loadDouble 17 = .ok (.bipush 8, 2) := by decide +kernel
theorem d_Pr_loadDouble_19 : decode b_Pr_loadDouble 19 = .ok (.ireturn, 1) := by decide +kernel
theorem d_Pr_loadDouble_20 : decode b_Pr_loadDouble 20 = .ok (.aload_n 0, 1) := by decide +kernel
theorem d_Pr_loadDouble_21 : decode b_Pr_loadDouble 21 = .ok (.getfield 33, 3) := by decide +kernel
theorem d_Pr_loadDouble_24 : decode b_Pr_loadDouble 24 = .ok (.iload_n 2, 1) := by decide +kernel
theorem d_Pr_loadDouble_25 : decode b_Pr_loadDouble 25 = .ok (.bipush 8, 2) := by decide +kernel
theorem d_Pr_loadDouble_27 : decode b_Pr_loadDouble 27 = .ok (.invokevirtual 51, 3) := by decide +kernel
theorem d_Pr_loadDouble_30 : decode b_Pr_loadDouble 30 = .ok (.ifCond .ne 5, 3) := by decide +kernel
theorem d_Pr_loadDouble_33 : decode b_Pr_loadDouble 33 = .ok (.iconst 1, 1) := by decide +kernel
theorem d_Pr_loadDouble_34 : decode b_Pr_loadDouble 34 = .ok (.ireturn, 1) := by decide +kernel
theorem d_Pr_loadDouble_35 : decode b_Pr_loadDouble 35 = .ok (.aload_n 0, 1) := by decide +kernel
theorem d_Pr_loadDouble_36 : decode b_Pr_loadDouble 36 = .ok (.dup, 1) := by decide +kernel
theorem d_Pr_loadDouble_37 : decode b_Pr_loadDouble 37 = .ok (.getfield 267, 3) := by decide +kernel
theorem d_Pr_loadDouble_40 : decode b_Pr_loadDouble 40 = .ok (.iconst 1, 1) := by decide +kernel
theorem d_Pr_loadDouble_41 : decode b_Pr_loadDouble 41 = .ok (.iadd, 1) := by decide +kernel
theorem d_Pr_loadDouble_42 : decode b_Pr_loadDouble 42 = .ok (.putfield 267, 3) := by decide +kernel
theorem d_Pr_loadDouble_45 : decode b_Pr_loadDouble 45 = .ok (.aload_n 0, 1) := by decide +kernel
theorem d_Pr_loadDouble_46 : decode b_Pr_loadDouble 46 = .ok (.getfield 25, 3) := by decide +kernel
theorem d_Pr_loadDouble_49 : decode b_Pr_loadDouble 49 = .ok (.getfield 273, 3) := by decide +kernel
theorem d_Pr_loadDouble_52 : decode b_Pr_loadDouble 52 = .ok (.iload_n 3, 1) := by decide +kernel
theorem d_Pr_loadDouble_53 : decode b_Pr_loadDouble 53 = .ok (.iconst 1, 1) := by decide +kernel
theorem d_Pr_loadDouble_54 : decode b_Pr_loadDouble 54 = .ok (.ior, 1) := by decide +kernel
theorem d_Pr_loadDouble_55 : decode b_Pr_loadDouble 55 = .ok (.aload_n 0, 1) := by decide +kernel
theorem d_Pr_loadDouble_56 : decode b_Pr_loadDouble 56 = .ok (.getfield 33, 3) := by decide +kernel
theorem d_Pr_loadDouble_59 : decode b_Pr_loadDouble 59 = .ok (.iload_n 2, 1) := by decide +kernel
theorem d_Pr_loadDouble_60 : decode b_Pr_loadDouble 60 = .ok (.iconst 4, 1) := by decide +kernel
theorem d_Pr_loadDouble_61 : decode b_Pr_loadDouble 61 = .ok (.invokevirtual 57, 3) := by decide +kernel
theorem d_Pr_loadDouble_64 : decode b_Pr_loadDouble 64 = .ok (.iastore, 1) := by decide +kernel
theorem d_Pr_loadDouble_65 : decode b_Pr_loadDouble 65 = .ok (.aload_n 0, 1) := by decide +kernel
theorem d_Pr_loadDouble_66 : decode b_Pr_loadDouble 66 = .ok (.getfield 25, 3) := by decide +kernel
theorem d_Pr_loadDouble_69 : decode b_Pr_loadDouble 69 = .ok (.getfield 273, 3) := by decide +kernel
theorem d_Pr_loadDouble_72 : decode b_Pr_loadDouble 72 = .ok (.iload_n 3, 1) := by decide +kernel
theorem d_Pr_loadDouble_73 : decode b_Pr_loadDouble 73 = .ok (.aload_n 0, 1) := by decide +kernel
theorem d_Pr_loadDouble_74 : decode b_Pr_loadDouble 74 = .ok (.getfield 33, 3) := by decide +kernel
theorem d_Pr_loadDouble_77 : decode b_Pr_loadDouble 77 = .ok (.iload_n 2, 1) := by decide +kernel
theorem d_Pr_loadDouble_78 : decode b_Pr_loadDouble 78 = .ok (.iconst 4, 1) := by decide +kernel
theorem d_Pr_loadDouble_79 : decode b_Pr_loadDouble 79 = .ok (.iadd, 1) := by decide +kernel
theorem d_Pr_loadDouble_80 : decode b_Pr_loadDouble 80 = .ok (.iconst 4, 1) := by decide +kernel
theorem d_Pr_loadDouble_81 : decode b_Pr_loadDouble 81 = .ok (.invokevirtual 57, 3) := by decide +kernel
theorem d_Pr_loadDouble_84 : decode b_Pr_loadDouble 84 = .ok (.iastore, 1) := by decide +kernel
theorem d_Pr_loadDouble_85 : decode b_Pr_loadDouble 85 = .ok (.iconst 0, 1) := by decide +kernel
theorem d_Pr_loadDouble_86 : decode b_Pr_loadDouble 86 = .ok (.ireturn, 1) := by decide +kernel
theorem d_Pr_store_0 : decode b_Pr_store 0 = .ok (.aload_n 0, 1) := by decide +kernel
theorem d_Pr_store_1 : decode b_Pr_store 1 = .ok (.iload_n 1, 1) := by decide +kernel
theorem d_Pr_store_2 : decode b_Pr_store 2 = .ok (.invokevirtual 261, 3) := by decide +kernel
theorem d_Pr_store_5 : decode b_Pr_store 5 = .ok (.istore_n 2, 1) := by decide +kernel
theorem d_Pr_store_6 : decode b_Pr_store 6 = .ok (.iload_n 1, 1) := by decide +kernel
theorem d_Pr_store_7 : decode b_Pr_store 7 = .ok (.invokestatic 264, 3) := by decide +kernel
theorem d_Pr_store_10 : decode b_Pr_store 10 = .ok (.istore_n 3, 1) := by decide +kernel
theorem d_Pr_store_11 : decode b_Pr_store 11 = .ok (.aload_n 0, 1) := by decide +kernel
theorem d_Pr_store_12 : decode b_Pr_store 12 = .ok (.getfield 33, 3) := by decide +kernel
theorem d_Pr_store_15 : decode b_Pr_store 15 = .ok (.iload_n 2, 1) := by decide +kernel
theorem d_Pr_store_16 : decode b_Pr_store 16 = .ok (.iload_n 3, 1) := by decide +kernel
theorem d_Pr_store_17 : decode b_Pr_store 17 = .ok (.invokevirtual 51, 3) := by decide +kernel
theorem d_Pr_store_20 : decode b_Pr_store 20 = .ok (.ifCond .ne 5, 3) := by decide +kernel
theorem d_Pr_store_23 : decode b_Pr_store 23 = .ok (.iconst 2, 1) := by decide +kernel
theorem d_Pr_store_24 : decode b_Pr_store 24 = .ok (.ireturn, 1) := by decide +kernel
theorem d_Pr_store_25 : decode b_Pr_store 25 = .ok (.aload_n 0, 1) := by decide +kernel
theorem d_Pr_store_26 : decode b_Pr_store 26 = .ok (.dup, 1) := by decide +kernel
theorem d_Pr_store_27 : decode b_Pr_store 27 = .ok (.getfield 274, 3) := by decide +kernel
theorem d_Pr_store_30 : decode b_Pr_store 30 = .ok (.iconst 1, 1) := by decide +kernel
theorem d_Pr_store_31 : decode b_Pr_store 31 = .ok (.iadd, 1) := by decide +kernel
theorem d_Pr_store_32 : decode b_Pr_store 32 = .ok (.putfield 274, 3) := by decide +kernel
theorem d_Pr_store_35 : decode b_Pr_store 35 = .ok (.aload_n 0, 1) := by decide +kernel
theorem d_Pr_store_36 : decode b_Pr_store 36 = .ok (.getfield 33, 3) := by decide +kernel
theorem d_Pr_store_39 : decode b_Pr_store 39 = .ok (.iload_n 2, 1) := by decide +kernel
theorem d_Pr_store_40 : decode b_Pr_store 40 = .ok (.iload_n 3, 1) := by decide +kernel
theorem d_Pr_store_41 : decode b_Pr_store 41 = .ok (.aload_n 0, 1) := by decide +kernel
theorem d_Pr_store_42 : decode b_Pr_store 42 = .ok (.getfield 9, 3) := by decide +kernel
theorem d_Pr_store_45 : decode b_Pr_store 45 = .ok (.iload_n 1, 1) := by decide +kernel
theorem d_Pr_store_46 : decode b_Pr_store 46 = .ok (.invokestatic 89, 3) := by decide +kernel
theorem d_Pr_store_49 : decode b_Pr_store 49 = .ok (.iaload, 1) := by decide +kernel
theorem d_Pr_store_50 : decode b_Pr_store 50 = .ok (.invokevirtual 277, 3) := by decide +kernel
theorem d_Pr_store_53 : decode b_Pr_store 53 = .ok (.iconst 0, 1) := by decide +kernel
theorem d_Pr_store_54 : decode b_Pr_store 54 = .ok (.ireturn, 1) := by decide +kernel
theorem d_Pr_storePart_0 : decode b_Pr_storePart 0 = .ok (.aload_n 0, 1) := by decide +kernel
theorem d_Pr_storePart_1 : decode b_Pr_storePart 1 = .ok (.iload_n 1, 1) := by decide +kernel
theorem d_Pr_storePart_2 : decode b_Pr_storePart 2 = .ok (.invokevirtual 261, 3) := by decide +kernel
theorem d_Pr_storePart_5 : decode b_Pr_storePart 5 = .ok (.istore_n 2, 1) := by decide +kernel
theorem d_Pr_storePart_6 : decode b_Pr_storePart 6 = .ok (.aload_n 0, 1) := by decide +kernel
theorem d_Pr_storePart_7 : decode b_Pr_storePart 7 = .ok (.getfield 33, 3) := by decide +kernel
theorem d_Pr_storePart_10 : decode b_Pr_storePart 10 = .ok (.iload_n 2, 1) := by decide +kernel
theorem d_Pr_storePart_11 : decode b_Pr_storePart 11 = .ok (.iconst 1, 1) := by decide +kernel
theorem d_Pr_storePart_12 : decode b_Pr_storePart 12 = .ok (.invokevirtual 51, 3) := by decide +kernel
theorem d_Pr_storePart_15 : decode b_Pr_storePart 15 = .ok (.ifCond .ne 5, 3) := by decide +kernel
theorem d_Pr_storePart_18 : decode b_Pr_storePart 18 = .ok (.iconst 2, 1) := by decide +kernel
theorem d_Pr_storePart_19 : decode b_Pr_storePart 19 = .ok (.ireturn, 1) := by decide +kernel
theorem d_Pr_storePart_20 : decode b_Pr_storePart 20 = .ok (.aload_n 0, 1) := by decide +kernel
theorem d_Pr_storePart_21 : decode b_Pr_storePart 21 = .ok (.getfield 33, 3) := by decide +kernel
theorem d_Pr_storePart_24 : decode b_Pr_storePart 24 = .ok (.iload_n 2, 1) := by decide +kernel
theorem d_Pr_storePart_25 : decode b_Pr_storePart 25 = .ok (.bipush (-4), 2) := by decide +kernel
theorem d_Pr_storePart_27 : decode b_Pr_storePart 27 = .ok (.iand, 1) := by decide +kernel
theorem d_Pr_storePart_28 : decode b_Pr_storePart 28 = .ok (.iconst 4, 1) := by decide +kernel
theorem d_Pr_storePart_29 : decode b_Pr_storePart 29 = .ok (.invokevirtual 57, 3) := by decide +kernel
theorem d_Pr_storePart_32 : decode b_Pr_storePart 32 = .ok (.istore_n 3, 1) := by decide +kernel
theorem d_Pr_storePart_33 : decode b_Pr_storePart 33 = .ok (.aload_n 0, 1) := by decide +kernel
theorem d_Pr_storePart_34 : decode b_Pr_storePart 34 = .ok (.getfield 9, 3) := by decide +kernel
theorem d_Pr_storePart_37 : decode b_Pr_storePart 37 = .ok (.iload_n 1, 1) := by decide +kernel
theorem d_Pr_storePart_38 : decode b_Pr_storePart 38 = .ok (.invokestatic 89, 3) := by decide +kernel
theorem d_Pr_storePart_41 : decode b_Pr_storePart 41 = .ok (.iaload, 1) := by decide +kernel
theorem d_Pr_storePart_42 : decode b_Pr_storePart 42 = .ok (.istore 4, 2) := by decide +kernel
theorem d_Pr_storePart_44 : decode b_Pr_storePart 44 = .ok (.iload_n 2, 1) := by decide +kernel
theorem d_Pr_storePart_45 : decode b_Pr_storePart 45 = .ok (.iconst 3, 1) := by decide +kernel
theorem d_Pr_storePart_46 : decode b_Pr_storePart 46 = .ok (.iand, 1) := by decide +kernel
theorem d_Pr_storePart_47 : decode b_Pr_storePart 47 = .ok (.bipush 8, 2) := by decide +kernel
theorem d_Pr_storePart_49 : decode b_Pr_storePart 49 = .ok (.imul, 1) := by decide +kernel
theorem d_Pr_storePart_50 : decode b_Pr_storePart 50 = .ok (.istore 5, 2) := by decide +kernel
theorem d_Pr_storePart_52 : decode b_Pr_storePart 52 = .ok (.bipush 24, 2) := by decide +kernel
theorem d_Pr_storePart_54 : decode b_Pr_storePart 54 = .ok (.iload 5, 2) := by decide +kernel
theorem d_Pr_storePart_56 : decode b_Pr_storePart 56 = .ok (.isub, 1) := by decide +kernel
theorem d_Pr_storePart_57 : decode b_Pr_storePart 57 = .ok (.istore 6, 2) := by decide +kernel
theorem d_Pr_storePart_59 : decode b_Pr_storePart 59 = .ok (.aload_n 0, 1) := by decide +kernel
theorem d_Pr_storePart_60 : decode b_Pr_storePart 60 = .ok (.dup, 1) := by decide +kernel
theorem d_Pr_storePart_61 : decode b_Pr_storePart 61 = .ok (.getfield 274, 3) := by decide +kernel
theorem d_Pr_storePart_64 : decode b_Pr_storePart 64 = .ok (.iconst 1, 1) := by decide +kernel
theorem d_Pr_storePart_65 : decode b_Pr_storePart 65 = .ok (.iadd, 1) := by decide +kernel
theorem d_Pr_storePart_66 : decode b_Pr_storePart 66 = .ok (.putfield 274, 3) := by decide +kernel
theorem d_Pr_storePart_69 : decode b_Pr_storePart 69 = .ok (.aload_n 0, 1) := by decide +kernel
theorem d_Pr_storePart_70 : decode b_Pr_storePart 70 = .ok (.getfield 33, 3) := by decide +kernel
theorem d_Pr_storePart_73 : decode b_Pr_storePart 73 = .ok (.iload_n 2, 1) := by decide +kernel
theorem d_Pr_storePart_74 : decode b_Pr_storePart 74 = .ok (.bipush (-4), 2) := by decide +kernel
theorem d_Pr_storePart_76 : decode b_Pr_storePart 76 = .ok (.iand, 1) := by decide +kernel
theorem d_Pr_storePart_77 : decode b_Pr_storePart 77 = .ok (.iconst 4, 1) := by decide +kernel
theorem d_Pr_storePart_78 : decode b_Pr_storePart 78 = .ok (.iload_n 1, 1) := by decide +kernel
theorem d_Pr_storePart_79 : decode b_Pr_storePart 79 = .ok (.invokestatic 71, 3) := by decide +kernel
theorem d_Pr_storePart_82 : decode b_Pr_storePart 82 = .ok (.bipush 42, 2) := by decide +kernel
theorem d_Pr_storePart_84 : decode b_Pr_storePart 84 = .ok (.if_icmp .ne 20, 3) := by decide +kernel
theorem d_Pr_storePart_87 : decode b_Pr_storePart 87 = .ok (.iload 4, 2) := by decide +kernel
theorem d_Pr_storePart_89 : decode b_Pr_storePart 89 = .ok (.iload 5, 2) := by decide +kernel
theorem d_Pr_storePart_91 : decode b_Pr_storePart 91 = .ok (.iushr, 1) := by decide +kernel
theorem d_Pr_storePart_92 : decode b_Pr_storePart 92 = .ok (.iload_n 3, 1) := by decide +kernel
theorem d_Pr_storePart_93 : decode b_Pr_storePart 93 = .ok (.iconst (-1), 1) := by decide +kernel
theorem d_Pr_storePart_94 : decode b_Pr_storePart 94 = .ok (.iload 5, 2) := by decide +kernel
theorem d_Pr_storePart_96 : decode b_Pr_storePart 96 = .ok (.iushr, 1) := by decide +kernel
theorem d_Pr_storePart_97 : decode b_Pr_storePart 97 = .ok (.iconst (-1), 1) := by decide +kernel
theorem d_Pr_storePart_98 : decode b_Pr_storePart 98 = .ok (.ixor, 1) := by decide +kernel
theorem d_Pr_storePart_99 : decode b_Pr_storePart 99 = .ok (.iand, 1) := by decide +kernel
theorem d_Pr_storePart_100 : decode b_Pr_storePart 100 = .ok (.ior, 1) := by decide +kernel
theorem d_Pr_storePart_101 : decode b_Pr_storePart 101 = .ok (.goto 17, 3) := by decide +kernel
theorem d_Pr_storePart_104 : decode b_Pr_storePart 104 = .ok (.iload 4, 2) := by decide +kernel
theorem d_Pr_storePart_106 : decode b_Pr_storePart 106 = .ok (.iload 6, 2) := by decide +kernel
theorem d_Pr_storePart_108 : decode b_Pr_storePart 108 = .ok (.ishl, 1) := by decide +kernel
theorem d_Pr_storePart_109 : decode b_Pr_storePart 109 = .ok (.iload_n 3, 1) := by decide +kernel
theorem d_Pr_storePart_110 : decode b_Pr_storePart 110 = .ok (.iconst (-1), 1) := by decide +kernel
theorem d_Pr_storePart_111 : decode b_Pr_storePart 111 = .ok (.iload 6, 2) := by decide +kernel
theorem d_Pr_storePart_113 : decode b_Pr_storePart 113 = .ok (.ishl, 1) := by decide +kernel
theorem d_Pr_storePart_114 : decode b_Pr_storePart 114 = .ok (.iconst (-1), 1) := by decide +kernel
theorem d_Pr_storePart_115 : decode b_Pr_storePart 115 = .ok (.ixor, 1) := by decide +kernel
theorem d_Pr_storePart_116 : decode b_Pr_storePart 116 = .ok (.iand, 1) := by decide +kernel
theorem d_Pr_storePart_117 : decode b_Pr_storePart 117 = .ok (.ior, 1) := by decide +kernel
theorem d_Pr_storePart_118 : decode b_Pr_storePart 118 = .ok (.invokevirtual 277, 3) := by decide +kernel
theorem d_Pr_storePart_121 : decode b_Pr_storePart 121 = .ok (.iconst 0, 1) := by decide +kernel
theorem d_Pr_storePart_122 : decode b_Pr_storePart 122 = .ok (.ireturn, 1) := by decide +kernel
theorem d_Pr_storeConditional_0 : decode b_Pr_storeConditional 0 = .ok (.aload_n 0, 1) := by decide +kernel
theorem d_Pr_storeConditional_1 : decode b_Pr_storeConditional 1 = .ok (.iload_n 1, 1) := by decide +kernel
theorem d_Pr_storeConditional_2 : decode b_Pr_storeConditional 2 = .ok (.invokevirtual 261, 3) := by decide +kernel
theorem d_Pr_storeConditional_5 : decode b_Pr_storeConditional 5 = .ok (.istore_n 2, 1) := by decide +kernel
theorem d_Pr_storeConditional_6 : decode b_Pr_storeConditional 6 = .ok (.aload_n 0, 1) := by decide +kernel
theorem d_Pr_storeConditional_7 : decode b_Pr_storeConditional 7 = .ok (.getfield 41, 3) := by decide +kernel
theorem d_Pr_storeConditional_10 : decode b_Pr_storeConditional 10 = .ok (.ifCond .eq 11, 3) := by decide +kernel
theorem d_Pr_storeConditional_13 : decode b_Pr_storeConditional 13 = .ok (.iload_n 2, 1) := by decide +kernel
theorem d_Pr_storeConditional_14 : decode b_Pr_storeConditional 14 = .ok (.aload_n 0, 1) := by decide +kernel
theorem d_Pr_storeConditional_15 : decode b_Pr_storeConditional 15 = .ok (.getfield 270, 3) := by decide +kernel
theorem d_Pr_storeConditional_18 : decode b_Pr_storeConditional 18 = .ok (.if_icmp .eq 6, 3) := by decide +kernel
theorem d_Pr_storeConditional_21 : decode b_Pr_storeConditional 21 = .ok (.bipush 8, 2) := by decide +kernel
theorem d_Pr_storeConditional_23 : decode b_Pr_storeConditional 23 = .ok (.ireturn, 1) := by decide +kernel
theorem d_Pr_storeConditional_24 : decode b_Pr_storeConditional 24 = .ok (.aload_n 0, 1) := by decide +kernel
theorem d_Pr_storeConditional_25 : decode b_Pr_storeConditional 25 = .ok (.getfield 33, 3) := by decide +kernel
theorem d_Pr_storeConditional_28 : decode b_Pr_storeConditional 28 = .ok (.iload_n 2, 1) := by decide +kernel
theorem d_Pr_storeConditional_29 : decode b_Pr_storeConditional 29 = .ok (.iconst 4, 1) := by decide +kernel
theorem d_Pr_storeConditional_30 : decode b_Pr_storeConditional 30 = .ok (.invokevirtual 51, 3) := by decide +kernel
theorem d_Pr_storeConditional_33 : decode b_Pr_storeConditional 33 = .ok (.ifCond .ne 5, 3) := by decide +kernel
theorem d_Pr_storeConditional_36 : decode b_Pr_storeConditional 36 = .ok (.iconst 2, 1) := by decide +kernel
theorem d_Pr_storeConditional_37 : decode b_Pr_storeConditional 37 = .ok (.ireturn, 1) := by decide +kernel
theorem d_Pr_storeConditional_38 : decode b_Pr_storeConditional 38 = .ok (.aload_n 0, 1) := by decide +kernel
theorem d_Pr_storeConditional_39 : decode b_Pr_storeConditional 39 = .ok (.iconst 0, 1) := by decide +kernel
theorem d_Pr_storeConditional_40 : decode b_Pr_storeConditional 40 = .ok (.putfield 41, 3) := by decide +kernel
theorem d_Pr_storeConditional_43 : decode b_Pr_storeConditional 43 = .ok (.aload_n 0, 1) := by decide +kernel
theorem d_Pr_storeConditional_44 : decode b_Pr_storeConditional 44 = .ok (.dup, 1) := by decide +kernel
theorem d_Pr_storeConditional_45 : decode b_Pr_storeConditional 45 = .ok (.getfield 274, 3) := by decide +kernel
theorem d_Pr_storeConditional_48 : decode b_Pr_storeConditional 48 = .ok (.iconst 1, 1) := by decide +kernel
theorem d_Pr_storeConditional_49 : decode b_Pr_storeConditional 49 = .ok (.iadd, 1) := by decide +kernel
theorem d_Pr_storeConditional_50 : decode b_Pr_storeConditional 50 = .ok (.putfield 274, 3) := by decide +kernel
theorem d_Pr_storeConditional_53 : decode b_Pr_storeConditional 53 = .ok (.aload_n 0, 1) := by decide +kernel
theorem d_Pr_storeConditional_54 : decode b_Pr_storeConditional 54 = .ok (.getfield 33, 3) := by decide +kernel
theorem d_Pr_storeConditional_57 : decode b_Pr_storeConditional 57 = .ok (.iload_n 2, 1) := by decide +kernel
theorem d_Pr_storeConditional_58 : decode b_Pr_storeConditional 58 = .ok (.iconst 4, 1) := by decide +kernel
theorem d_Pr_storeConditional_59 : decode b_Pr_storeConditional 59 = .ok (.aload_n 0, 1) := by decide +kernel
theorem d_Pr_storeConditional_60 : decode b_Pr_storeConditional 60 = .ok (.getfield 9, 3) := by decide +kernel
theorem d_Pr_storeConditional_63 : decode b_Pr_storeConditional 63 = .ok (.iload_n 1, 1) := by decide +kernel
theorem d_Pr_storeConditional_64 : decode b_Pr_storeConditional 64 = .ok (.invokestatic 89, 3) := by decide +kernel
theorem d_Pr_storeConditional_67 : decode b_Pr_storeConditional 67 = .ok (.iaload, 1) := by decide +kernel
theorem d_Pr_storeConditional_68 : decode b_Pr_storeConditional 68 = .ok (.invokevirtual 277, 3) := by decide +kernel
theorem d_Pr_storeConditional_71 : decode b_Pr_storeConditional 71 = .ok (.aload_n 0, 1) := by decide +kernel
theorem d_Pr_storeConditional_72 : decode b_Pr_storeConditional 72 = .ok (.iload_n 1, 1) := by decide +kernel
theorem d_Pr_storeConditional_73 : decode b_Pr_storeConditional 73 = .ok (.invokestatic 89, 3) := by decide +kernel
theorem d_Pr_storeConditional_76 : decode b_Pr_storeConditional 76 = .ok (.iconst 1, 1) := by decide +kernel
theorem d_Pr_storeConditional_77 : decode b_Pr_storeConditional 77 = .ok (.invokevirtual 161, 3) := by decide +kernel
theorem d_Pr_storeConditional_80 : decode b_Pr_storeConditional 80 = .ok (.ireturn, 1) := by decide +kernel
theorem d_Pr_storeSingle_0 : decode b_Pr_storeSingle 0 = .ok (.aload_n 0, 1) := by decide +kernel
theorem d_Pr_storeSingle_1 : decode b_Pr_storeSingle 1 = .ok (.iload_n 1, 1) := by decide +kernel
theorem d_Pr_storeSingle_2 : decode b_Pr_storeSingle 2 = .ok (.invokevirtual 261, 3) := by decide +kernel
theorem d_Pr_storeSingle_5 : decode b_Pr_storeSingle 5 = .ok (.istore_n 2, 1) := by decide +kernel
theorem d_Pr_storeSingle_6 : decode b_Pr_storeSingle 6 = .ok (.aload_n 0, 1) := by decide +kernel
theorem d_Pr_storeSingle_7 : decode b_Pr_storeSingle 7 = .ok (.getfield 33, 3) := by decide +kernel
theorem d_Pr_storeSingle_10 : decode b_Pr_storeSingle 10 = .ok (.iload_n 2, 1) := by decide +kernel
theorem d_Pr_storeSingle_11 : decode b_Pr_storeSingle 11 = .ok (.iconst 4, 1) := by decide +kernel
theorem d_Pr_storeSingle_12 : decode b_Pr_storeSingle 12 = .ok (.invokevirtual 51, 3) := by decide +kernel
theorem d_Pr_storeSingle_15 : decode b_Pr_storeSingle 15 = .ok (.ifCond .ne 5, 3) := by decide +kernel
theorem d_Pr_storeSingle_18 : decode b_Pr_storeSingle 18 = .ok (.iconst 2, 1) := by decide +kernel
theorem d_Pr_storeSingle_19 : decode b_Pr_storeSingle 19 = .ok (.ireturn, 1) := by decide +kernel
theorem d_Pr_storeSingle_20 : decode b_Pr_storeSingle 20 = .ok (.aload_n 0, 1) := by decide +kernel
theorem d_Pr_storeSingle_21 : decode b_Pr_storeSingle 21 = .ok (.dup, 1) := by decide +kernel
theorem d_Pr_storeSingle_22 : decode b_Pr_storeSingle 22 = .ok (.getfield 274, 3) := by decide +kernel
theorem d_Pr_storeSingle_25 : decode b_Pr_storeSingle 25 = .ok (.iconst 1, 1) := by decide +kernel
theorem d_Pr_storeSingle_26 : decode b_Pr_storeSingle 26 = .ok (.iadd, 1) := by decide +kernel
theorem d_Pr_storeSingle_27 : decode b_Pr_storeSingle 27 = .ok (.putfield 274, 3) := by decide +kernel
theorem d_Pr_storeSingle_30 : decode b_Pr_storeSingle 30 = .ok (.aload_n 0, 1) := by decide +kernel
theorem d_Pr_storeSingle_31 : decode b_Pr_storeSingle 31 = .ok (.getfield 33, 3) := by decide +kernel
theorem d_Pr_storeSingle_34 : decode b_Pr_storeSingle 34 = .ok (.iload_n 2, 1) := by decide +kernel
theorem d_Pr_storeSingle_35 : decode b_Pr_storeSingle 35 = .ok (.iconst 4, 1) := by decide +kernel
theorem d_Pr_storeSingle_36 : decode b_Pr_storeSingle 36 = .ok (.aload_n 0, 1) := by decide +kernel
theorem d_Pr_storeSingle_37 : decode b_Pr_storeSingle 37 = .ok (.getfield 25, 3) := by decide +kernel
theorem d_Pr_storeSingle_40 : decode b_Pr_storeSingle 40 = .ok (.getfield 273, 3) := by decide +kernel
theorem d_Pr_storeSingle_43 : decode b_Pr_storeSingle 43 = .ok (.iload_n 1, 1) := by decide +kernel
theorem d_Pr_storeSingle_44 : decode b_Pr_storeSingle 44 = .ok (.invokestatic 89, 3) := by decide +kernel
theorem d_Pr_storeSingle_47 : decode b_Pr_storeSingle 47 = .ok (.iaload, 1) := by decide +kernel
theorem d_Pr_storeSingle_48 : decode b_Pr_storeSingle 48 = .ok (.invokevirtual 277, 3) := by decide +kernel
theorem d_Pr_storeSingle_51 : decode b_Pr_storeSingle 51 = .ok (.iconst 0, 1) := by decide +kernel
theorem d_Pr_storeSingle_52 : decode b_Pr_storeSingle 52 = .ok (.ireturn, 1) := by decide +kernel
theorem d_Pr_storeDouble_0 : decode b_Pr_storeDouble 0 = .ok (.aload_n 0, 1) := by decide +kernel
theorem d_Pr_storeDouble_1 : decode b_Pr_storeDouble 1 = .ok (.iload_n 1, 1) := by decide +kernel
theorem d_Pr_storeDouble_2 : decode b_Pr_storeDouble 2 = .ok (.invokevirtual 261, 3) := by decide +kernel
theorem d_Pr_storeDouble_5 : decode b_Pr_storeDouble 5 = .ok (.istore_n 2, 1) := by decide +kernel
theorem d_Pr_storeDouble_6 : decode b_Pr_storeDouble 6 = .ok (.iload_n 1, 1) := by decide +kernel
theorem d_Pr_storeDouble_7 : decode b_Pr_storeDouble 7 = .ok (.invokestatic 89, 3) := by decide +kernel
theorem d_Pr_storeDouble_10 : decode b_Pr_storeDouble 10 = .ok (.istore_n 3, 1) := by decide +kernel
theorem d_Pr_storeDouble_11 : decode b_Pr_storeDouble 11 = .ok (.iload_n 3, 1) := by decide +kernel
theorem d_Pr_storeDouble_12 : decode b_Pr_storeDouble 12 = .ok (.iconst 1, 1) := by decide +kernel
theorem d_Pr_storeDouble_13 : decode b_Pr_storeDouble 13 = .ok (.iand, 1) := by decide +kernel
theorem d_Pr_storeDouble_14 : decode b_Pr_storeDouble 14 = .ok (.ifCond .eq 6, 3) := by decide +kernel
theorem d_Pr_storeDouble_17 : decode b_Pr_storeDouble 17 = .ok (.bipush 8, 2) := by decide +kernel
theorem d_Pr_storeDouble_19 : decode b_Pr_storeDouble 19 = .ok (.ireturn, 1) := by decide +kernel
theorem d_Pr_storeDouble_20 : decode b_Pr_storeDouble 20 = .ok (.aload_n 0, 1) := by decide +kernel
theorem d_Pr_storeDouble_21 : decode b_Pr_storeDouble 21 = .ok (.getfield 33, 3) := by decide +kernel
theorem d_Pr_storeDouble_24 : decode b_Pr_storeDouble 24 = .ok (.iload_n 2, 1) := by decide +kernel
theorem d_Pr_storeDouble_25 : decode b_Pr_storeDouble 25 = .ok (.bipush 8, 2) := by decide +kernel
theorem d_Pr_storeDouble_27 : decode b_Pr_storeDouble 27 = .ok (.invokevirtual 51, 3) := by decide +kernel
theorem d_Pr_storeDouble_30 : decode b_Pr_storeDouble 30 = .ok (.ifCond .ne 5, 3) := by decide +kernel
theorem d_Pr_storeDouble_33 : decode b_Pr_storeDouble 33 = .ok (.iconst 2, 1) := by decide +kernel
theorem d_Pr_storeDouble_34 : decode b_Pr_storeDouble 34 = .ok (.ireturn, 1) := by decide +kernel
theorem d_Pr_storeDouble_35 : decode b_Pr_storeDouble 35 = .ok (.aload_n 0, 1) := by decide +kernel
theorem d_Pr_storeDouble_36 : decode b_Pr_storeDouble 36 = .ok (.dup, 1) := by decide +kernel
theorem d_Pr_storeDouble_37 : decode b_Pr_storeDouble 37 = .ok (.getfield 274, 3) := by decide +kernel
theorem d_Pr_storeDouble_40 : decode b_Pr_storeDouble 40 = .ok (.iconst 1, 1) := by decide +kernel
theorem d_Pr_storeDouble_41 : decode b_Pr_storeDouble 41 = .ok (.iadd, 1) := by decide +kernel
theorem d_Pr_storeDouble_42 : decode b_Pr_storeDouble 42 = .ok (.putfield 274, 3) := by decide +kernel
theorem d_Pr_storeDouble_45 : decode b_Pr_storeDouble 45 = .ok (.aload_n 0, 1) := by decide +kernel
theorem d_Pr_storeDouble_46 : decode b_Pr_storeDouble 46 = .ok (.getfield 33, 3) := by decide +kernel
theorem d_Pr_storeDouble_49 : decode b_Pr_storeDouble 49 = .ok (.iload_n 2, 1) := by decide +kernel
theorem d_Pr_storeDouble_50 : decode b_Pr_storeDouble 50 = .ok (.iconst 4, 1) := by decide +kernel
theorem d_Pr_storeDouble_51 : decode b_Pr_storeDouble 51 = .ok (.aload_n 0, 1) := by decide +kernel
theorem d_Pr_storeDouble_52 : decode b_Pr_storeDouble 52 = .ok (.getfield 25, 3) := by decide +kernel
theorem d_Pr_storeDouble_55 : decode b_Pr_storeDouble 55 = .ok (.getfield 273, 3) := by decide +kernel
theorem d_Pr_storeDouble_58 : decode b_Pr_storeDouble 58 = .ok (.iload_n 3, 1) := by decide +kernel
theorem d_Pr_storeDouble_59 : decode b_Pr_storeDouble 59 = .ok (.iconst 1, 1) := by decide +kernel
theorem d_Pr_storeDouble_60 : decode b_Pr_storeDouble 60 = .ok (.ior, 1) := by decide +kernel
theorem d_Pr_storeDouble_61 : decode b_Pr_storeDouble 61 = .ok (.iaload, 1) := by decide +kernel
theorem d_Pr_storeDouble_62 : decode b_Pr_storeDouble 62 = .ok (.invokevirtual 277, 3) := by decide +kernel
theorem d_Pr_storeDouble_65 : decode b_Pr_storeDouble 65 = .ok (.aload_n 0, 1) := by decide +kernel
theorem d_Pr_storeDouble_66 : decode b_Pr_storeDouble 66 = .ok (.getfield 33, 3) := by decide +kernel
theorem d_Pr_storeDouble_69 : decode b_Pr_storeDouble 69 = .ok (.iload_n 2, 1) := by decide +kernel
theorem d_Pr_storeDouble_70 : decode b_Pr_storeDouble 70 = .ok (.iconst 4, 1) := by decide +kernel
theorem d_Pr_storeDouble_71 : decode b_Pr_storeDouble 71 = .ok (.iadd, 1) := by decide +kernel
theorem d_Pr_storeDouble_72 : decode b_Pr_storeDouble 72 = .ok (.iconst 4, 1) := by decide +kernel
theorem d_Pr_storeDouble_73 : decode b_Pr_storeDouble 73 = .ok (.aload_n 0, 1) := by decide +kernel
theorem d_Pr_storeDouble_74 : decode b_Pr_storeDouble 74 = .ok (.getfield 25, 3) := by decide +kernel
theorem d_Pr_storeDouble_77 : decode b_Pr_storeDouble 77 = .ok (.getfield 273, 3) := by decide +kernel
theorem d_Pr_storeDouble_80 : decode b_Pr_storeDouble 80 = .ok (.iload_n 3, 1) := by decide +kernel
theorem d_Pr_storeDouble_81 : decode b_Pr_storeDouble 81 = .ok (.iaload, 1) := by decide +kernel
theorem d_Pr_storeDouble_82 : decode b_Pr_storeDouble 82 = .ok (.invokevirtual 277, 3) := by decide +kernel
theorem d_Pr_storeDouble_85 : decode b_Pr_storeDouble 85 = .ok (.iconst 0, 1) := by decide +kernel
theorem d_Pr_storeDouble_86 : decode b_Pr_storeDouble 86 = .ok (.ireturn, 1) := by decide +kernel
theorem d_Pr_access_0 : decode b_Pr_access 0 = .ok (.iload_n 1, 1) := by decide +kernel
theorem d_Pr_access_1 : decode b_Pr_access 1 = .ok (.invokestatic 71, 3) := by decide +kernel
theorem d_Pr_access_4 : decode b_Pr_access 4 = .ok (.tableswitch 196 32 61 #[136, 136, 142, 136, 136, 136, 142, 196, 166, 166, 172, 166, 196, 196, 172, 196, 148, 154, 196, 196, 196, 160, 196, 196, 178, 184, 196, 196, 196, 190], 136) := by decide +kernel
theorem d_Pr_access_140 : decode b_Pr_access 140 = .ok (.aload_n 0, 1) := by decide +kernel
theorem d_Pr_access_141 : decode b_Pr_access 141 = .ok (.iload_n 1, 1) := by decide +kernel
theorem d_Pr_access_142 : decode b_Pr_access 142 = .ok (.invokevirtual 106, 3) := by decide +kernel
theorem d_Pr_access_145 : decode b_Pr_access 145 = .ok (.ireturn, 1) := by decide +kernel
theorem d_Pr_access_146 : decode b_Pr_access 146 = .ok (.aload_n 0, 1) := by decide +kernel
theorem d_Pr_access_147 : decode b_Pr_access 147 = .ok (.iload_n 1, 1) := by decide +kernel
theorem d_Pr_access_148 : decode b_Pr_access 148 = .ok (.invokevirtual 109, 3) := by decide +kernel
theorem d_Pr_access_151 : decode b_Pr_access 151 = .ok (.ireturn, 1) := by decide +kernel
theorem d_Pr_access_152 : decode b_Pr_access 152 = .ok (.aload_n 0, 1) := by decide +kernel
theorem d_Pr_access_153 : decode b_Pr_access 153 = .ok (.iload_n 1, 1) := by decide +kernel
theorem d_Pr_access_154 : decode b_Pr_access 154 = .ok (.invokevirtual 112, 3) := by decide +kernel
theorem d_Pr_access_157 : decode b_Pr_access 157 = .ok (.ireturn, 1) := by decide +kernel
theorem d_Pr_access_158 : decode b_Pr_access 158 = .ok (.aload_n 0, 1) := by decide +kernel
theorem d_Pr_access_159 : decode b_Pr_access 159 = .ok (.iload_n 1, 1) := by decide +kernel
theorem d_Pr_access_160 : decode b_Pr_access 160 = .ok (.invokevirtual 115, 3) := by decide +kernel
theorem d_Pr_access_163 : decode b_Pr_access 163 = .ok (.ireturn, 1) := by decide +kernel
theorem d_Pr_access_164 : decode b_Pr_access 164 = .ok (.aload_n 0, 1) := by decide +kernel
theorem d_Pr_access_165 : decode b_Pr_access 165 = .ok (.iload_n 1, 1) := by decide +kernel
theorem d_Pr_access_166 : decode b_Pr_access 166 = .ok (.invokevirtual 118, 3) := by decide +kernel
theorem d_Pr_access_169 : decode b_Pr_access 169 = .ok (.ireturn, 1) := by decide +kernel
theorem d_Pr_access_170 : decode b_Pr_access 170 = .ok (.aload_n 0, 1) := by decide +kernel
theorem d_Pr_access_171 : decode b_Pr_access 171 = .ok (.iload_n 1, 1) := by decide +kernel
theorem d_Pr_access_172 : decode b_Pr_access 172 = .ok (.invokevirtual 121, 3) := by decide +kernel
theorem d_Pr_access_175 : decode b_Pr_access 175 = .ok (.ireturn, 1) := by decide +kernel
theorem d_Pr_access_176 : decode b_Pr_access 176 = .ok (.aload_n 0, 1) := by decide +kernel
theorem d_Pr_access_177 : decode b_Pr_access 177 = .ok (.iload_n 1, 1) := by decide +kernel
theorem d_Pr_access_178 : decode b_Pr_access 178 = .ok (.invokevirtual 124, 3) := by decide +kernel
theorem d_Pr_access_181 : decode b_Pr_access 181 = .ok (.ireturn, 1) := by decide +kernel
theorem d_Pr_access_182 : decode b_Pr_access 182 = .ok (.aload_n 0, 1) := by decide +kernel
theorem d_Pr_access_183 : decode b_Pr_access 183 = .ok (.iload_n 1, 1) := by decide +kernel
theorem d_Pr_access_184 : decode b_Pr_access 184 = .ok (.invokevirtual 127, 3) := by decide +kernel
theorem d_Pr_access_187 : decode b_Pr_access 187 = .ok (.ireturn, 1) := by decide +kernel
theorem d_Pr_access_188 : decode b_Pr_access 188 = .ok (.aload_n 0, 1) := by decide +kernel
theorem d_Pr_access_189 : decode b_Pr_access 189 = .ok (.iload_n 1, 1) := by decide +kernel
theorem d_Pr_access_190 : decode b_Pr_access 190 = .ok (.invokevirtual 130, 3) := by decide +kernel
theorem d_Pr_access_193 : decode b_Pr_access 193 = .ok (.ireturn, 1) := by decide +kernel
theorem d_Pr_access_194 : decode b_Pr_access 194 = .ok (.aload_n 0, 1) := by decide +kernel
theorem d_Pr_access_195 : decode b_Pr_access 195 = .ok (.iload_n 1, 1) := by decide +kernel
theorem d_Pr_access_196 : decode b_Pr_access 196 = .ok (.invokevirtual 133, 3) := by decide +kernel
theorem d_Pr_access_199 : decode b_Pr_access 199 = .ok (.ireturn, 1) := by decide +kernel
theorem d_Pr_access_200 : decode b_Pr_access 200 = .ok (.iconst 3, 1) := by decide +kernel
theorem d_Pr_access_201 : decode b_Pr_access 201 = .ok (.ireturn, 1) := by decide +kernel
theorem d_Pr_perform_0 : decode b_Pr_perform 0 = .ok (.iload_n 1, 1) := by decide +kernel
theorem d_Pr_perform_1 : decode b_Pr_perform 1 = .ok (.invokestatic 71, 3) := by decide +kernel
theorem d_Pr_perform_4 : decode b_Pr_perform 4 = .ok (.tableswitch 297 0 51 #[224, 230, 277, 277, 283, 283, 283, 283, 289, 289, 289, 289, 289, 289, 289, 289, 297, 242, 297, 297, 283, 283, 283, 283, 297, 297, 297, 297, 236, 297, 297, 297, 297, 297, 297, 297, 297, 297, 297, 297, 297, 297, 297, 297, 297, 297, 297, 297, 297, 297, 297, 295], 224) := by decide +kernel
theorem d_Pr_perform_228 : decode b_Pr_perform 228 = .ok (.aload_n 0, 1) := by decide +kernel
theorem d_Pr_perform_229 : decode b_Pr_perform 229 = .ok (.iload_n 1, 1) := by decide +kernel
theorem d_Pr_perform_230 : decode b_Pr_perform 230 = .ok (.invokevirtual 74, 3) := by decide +kernel
theorem d_Pr_perform_233 : decode b_Pr_perform 233 = .ok (.ireturn, 1) := by decide +kernel
theorem d_Pr_perform_234 : decode b_Pr_perform 234 = .ok (.aload_n 0, 1) := by decide +kernel
theorem d_Pr_perform_235 : decode b_Pr_perform 235 = .ok (.iload_n 1, 1) := by decide +kernel
theorem d_Pr_perform_236 : decode b_Pr_perform 236 = .ok (.invokevirtual 77, 3) := by decide +kernel
theorem d_Pr_perform_239 : decode b_Pr_perform 239 = .ok (.ireturn, 1) := by decide +kernel
theorem d_Pr_perform_240 : decode b_Pr_perform 240 = .ok (.aload_n 0, 1) := by decide +kernel
theorem d_Pr_perform_241 : decode b_Pr_perform 241 = .ok (.iload_n 1, 1) := by decide +kernel
theorem d_Pr_perform_242 : decode b_Pr_perform 242 = .ok (.invokevirtual 80, 3) := by decide +kernel
theorem d_Pr_perform_245 : decode b_Pr_perform 245 = .ok (.ireturn, 1) := by decide +kernel
theorem d_Pr_perform_246 : decode b_Pr_perform 246 = .ok (.iload_n 1, 1) := by decide +kernel
theorem d_Pr_perform_247 : decode b_Pr_perform 247 = .ok (.invokestatic 83, 3) := by decide +kernel
theorem d_Pr_perform_250 : decode b_Pr_perform 250 = .ok (.bipush 16, 2) := by decide +kernel
theorem d_Pr_perform_252 : decode b_Pr_perform 252 = .ok (.if_icmp .ge 11, 3) := by decide +kernel
theorem d_Pr_perform_255 : decode b_Pr_perform 255 = .ok (.aload_n 0, 1) := by decide +kernel
theorem d_Pr_perform_256 : decode b_Pr_perform 256 = .ok (.iload_n 1, 1) := by decide +kernel
theorem d_Pr_perform_257 : decode b_Pr_perform 257 = .ok (.invokevirtual 86, 3) := by decide +kernel
theorem d_Pr_perform_260 : decode b_Pr_perform 260 = .ok (.goto 20, 3) := by decide +kernel
theorem d_Pr_perform_263 : decode b_Pr_perform 263 = .ok (.aload_n 0, 1) := by decide +kernel
theorem d_Pr_perform_264 : decode b_Pr_perform 264 = .ok (.getfield 25, 3) := by decide +kernel
theorem d_Pr_perform_267 : decode b_Pr_perform 267 = .ok (.iload_n 1, 1) := by decide +kernel
theorem d_Pr_perform_268 : decode b_Pr_perform 268 = .ok (.aload_n 0, 1) := by decide +kernel
theorem d_Pr_perform_269 : decode b_Pr_perform 269 = .ok (.getfield 9, 3) := by decide +kernel
theorem d_Pr_perform_272 : decode b_Pr_perform 272 = .ok (.iload_n 1, 1) := by decide +kernel
theorem d_Pr_perform_273 : decode b_Pr_perform 273 = .ok (.invokestatic 89, 3) := by decide +kernel
theorem d_Pr_perform_276 : decode b_Pr_perform 276 = .ok (.iaload, 1) := by decide +kernel
theorem d_Pr_perform_277 : decode b_Pr_perform 277 = .ok (.invokevirtual 92, 3) := by decide +kernel
theorem d_Pr_perform_280 : decode b_Pr_perform 280 = .ok (.ireturn, 1) := by decide +kernel
theorem d_Pr_perform_281 : decode b_Pr_perform 281 = .ok (.aload_n 0, 1) := by decide +kernel
theorem d_Pr_perform_282 : decode b_Pr_perform 282 = .ok (.iload_n 1, 1) := by decide +kernel
theorem d_Pr_perform_283 : decode b_Pr_perform 283 = .ok (.invokevirtual 94, 3) := by decide +kernel
theorem d_Pr_perform_286 : decode b_Pr_perform 286 = .ok (.ireturn, 1) := by decide +kernel
theorem d_Pr_perform_287 : decode b_Pr_perform 287 = .ok (.aload_n 0, 1) := by decide +kernel
theorem d_Pr_perform_288 : decode b_Pr_perform 288 = .ok (.iload_n 1, 1) := by decide +kernel
theorem d_Pr_perform_289 : decode b_Pr_perform 289 = .ok (.invokevirtual 97, 3) := by decide +kernel
theorem d_Pr_perform_292 : decode b_Pr_perform 292 = .ok (.ireturn, 1) := by decide +kernel
theorem d_Pr_perform_293 : decode b_Pr_perform 293 = .ok (.aload_n 0, 1) := by decide +kernel
theorem d_Pr_perform_294 : decode b_Pr_perform 294 = .ok (.iload_n 1, 1) := by decide +kernel
theorem d_Pr_perform_295 : decode b_Pr_perform 295 = .ok (.invokevirtual 100, 3) := by decide +kernel
theorem d_Pr_perform_298 : decode b_Pr_perform 298 = .ok (.ireturn, 1) := by decide +kernel
theorem d_Pr_perform_299 : decode b_Pr_perform 299 = .ok (.iconst 0, 1) := by decide +kernel
theorem d_Pr_perform_300 : decode b_Pr_perform 300 = .ok (.ireturn, 1) := by decide +kernel
theorem d_Pr_perform_301 : decode b_Pr_perform 301 = .ok (.aload_n 0, 1) := by decide +kernel
theorem d_Pr_perform_302 : decode b_Pr_perform 302 = .ok (.iload_n 1, 1) := by decide +kernel
theorem d_Pr_perform_303 : decode b_Pr_perform 303 = .ok (.invokevirtual 103, 3) := by decide +kernel
theorem d_Pr_perform_306 : decode b_Pr_perform 306 = .ok (.ireturn, 1) := by decide +kernel
theorem d_Pr_step_0 : decode b_Pr_step 0 = .ok (.aload_n 0, 1) := by decide +kernel
theorem d_Pr_step_1 : decode b_Pr_step 1 = .ok (.getfield 33, 3) := by decide +kernel
theorem d_Pr_step_4 : decode b_Pr_step 4 = .ok (.aload_n 0, 1) := by decide +kernel
theorem d_Pr_step_5 : decode b_Pr_step 5 = .ok (.getfield 48, 3) := by decide +kernel
theorem d_Pr_step_8 : decode b_Pr_step 8 = .ok (.iconst 4, 1) := by decide +kernel
theorem d_Pr_step_9 : decode b_Pr_step 9 = .ok (.invokevirtual 51, 3) := by decide +kernel
theorem d_Pr_step_12 : decode b_Pr_step 12 = .ok (.ifCond .ne 9, 3) := by decide +kernel
theorem d_Pr_step_15 : decode b_Pr_step 15 = .ok (.aload_n 0, 1) := by decide +kernel
theorem d_Pr_step_16 : decode b_Pr_step 16 = .ok (.iconst 1, 1) := by decide +kernel
theorem d_Pr_step_17 : decode b_Pr_step 17 = .ok (.putfield 45, 3) := by decide +kernel
theorem d_Pr_step_20 : decode b_Pr_step 20 = .ok (.return_, 1) := by decide +kernel
theorem d_Pr_step_21 : decode b_Pr_step 21 = .ok (.aload_n 0, 1) := by decide +kernel
theorem d_Pr_step_22 : decode b_Pr_step 22 = .ok (.aload_n 0, 1) := by decide +kernel
theorem d_Pr_step_23 : decode b_Pr_step 23 = .ok (.getfield 33, 3) := by decide +kernel
theorem d_Pr_step_26 : decode b_Pr_step 26 = .ok (.aload_n 0, 1) := by decide +kernel
theorem d_Pr_step_27 : decode b_Pr_step 27 = .ok (.getfield 48, 3) := by decide +kernel
theorem d_Pr_step_30 : decode b_Pr_step 30 = .ok (.iconst 4, 1) := by decide +kernel
theorem d_Pr_step_31 : decode b_Pr_step 31 = .ok (.invokevirtual 57, 3) := by decide +kernel
theorem d_Pr_step_34 : decode b_Pr_step 34 = .ok (.invokevirtual 61, 3) := by decide +kernel
theorem d_Pr_step_37 : decode b_Pr_step 37 = .ok (.istore_n 1, 1) := by decide +kernel
theorem d_Pr_step_38 : decode b_Pr_step 38 = .ok (.iload_n 1, 1) := by decide +kernel
theorem d_Pr_step_39 : decode b_Pr_step 39 = .ok (.ifCond .le 9, 3) := by decide +kernel
theorem d_Pr_step_42 : decode b_Pr_step 42 = .ok (.aload_n 0, 1) := by decide +kernel
theorem d_Pr_step_43 : decode b_Pr_step 43 = .ok (.iload_n 1, 1) := by decide +kernel
theorem d_Pr_step_44 : decode b_Pr_step 44 = .ok (.putfield 45, 3) := by decide +kernel
theorem d_Pr_step_47 : decode b_Pr_step 47 = .ok (.return_, 1) := by decide +kernel
theorem d_Pr_step_48 : decode b_Pr_step 48 = .ok (.iload_n 1, 1) := by decide +kernel
theorem d_Pr_step_49 : decode b_Pr_step 49 = .ok (.iconst (-1), 1) := by decide +kernel
theorem d_Pr_step_50 : decode b_Pr_step 50 = .ok (.if_icmp .eq 18, 3) := by decide +kernel
theorem d_Pr_step_53 : decode b_Pr_step 53 = .ok (.aload_n 0, 1) := by decide +kernel
theorem d_Pr_step_54 : decode b_Pr_step 54 = .ok (.aload_n 0, 1) := by decide +kernel
theorem d_Pr_step_55 : decode b_Pr_step 55 = .ok (.getfield 29, 3) := by decide +kernel
theorem d_Pr_step_58 : decode b_Pr_step 58 = .ok (.aload_n 0, 1) := by decide +kernel
theorem d_Pr_step_59 : decode b_Pr_step 59 = .ok (.getfield 29, 3) := by decide +kernel
theorem d_Pr_step_62 : decode b_Pr_step 62 = .ok (.iconst 4, 1) := by decide +kernel
theorem d_Pr_step_63 : decode b_Pr_step 63 = .ok (.iadd, 1) := by decide +kernel
theorem d_Pr_step_64 : decode b_Pr_step 64 = .ok (.iconst 0, 1) := by decide +kernel
theorem d_Pr_step_65 : decode b_Pr_step 65 = .ok (.invokevirtual 37, 3) := by decide +kernel
theorem d_Pr_step_68 : decode b_Pr_step 68 = .ok (.aload_n 0, 1) := by decide +kernel
theorem d_Pr_step_69 : decode b_Pr_step 69 = .ok (.dup, 1) := by decide +kernel
theorem d_Pr_step_70 : decode b_Pr_step 70 = .ok (.getfield 65, 3) := by decide +kernel
theorem d_Pr_step_73 : decode b_Pr_step 73 = .ok (.iconst 1, 1) := by decide +kernel
theorem d_Pr_step_74 : decode b_Pr_step 74 = .ok (.iadd, 1) := by decide +kernel
theorem d_Pr_step_75 : decode b_Pr_step 75 = .ok (.putfield 65, 3) := by decide +kernel
theorem d_Pr_step_78 : decode b_Pr_step 78 = .ok (.return_, 1) := by decide +kernel
theorem d_Pr_stepOver_0 : decode b_Pr_stepOver 0 = .ok (.aload_n 0, 1) := by decide +kernel
theorem d_Pr_stepOver_1 : decode b_Pr_stepOver 1 = .ok (.aload_n 0, 1) := by decide +kernel
theorem d_Pr_stepOver_2 : decode b_Pr_stepOver 2 = .ok (.getfield 29, 3) := by decide +kernel
theorem d_Pr_stepOver_5 : decode b_Pr_stepOver 5 = .ok (.aload_n 0, 1) := by decide +kernel
theorem d_Pr_stepOver_6 : decode b_Pr_stepOver 6 = .ok (.getfield 29, 3) := by decide +kernel
theorem d_Pr_stepOver_9 : decode b_Pr_stepOver 9 = .ok (.iconst 4, 1) := by decide +kernel
theorem d_Pr_stepOver_10 : decode b_Pr_stepOver 10 = .ok (.iadd, 1) := by decide +kernel
theorem d_Pr_stepOver_11 : decode b_Pr_stepOver 11 = .ok (.iconst 0, 1) := by decide +kernel
theorem d_Pr_stepOver_12 : decode b_Pr_stepOver 12 = .ok (.invokevirtual 37, 3) := by decide +kernel
theorem d_Pr_stepOver_15 : decode b_Pr_stepOver 15 = .ok (.aload_n 0, 1) := by decide +kernel
theorem d_Pr_stepOver_16 : decode b_Pr_stepOver 16 = .ok (.dup, 1) := by decide +kernel
theorem d_Pr_stepOver_17 : decode b_Pr_stepOver 17 = .ok (.getfield 65, 3) := by decide +kernel
theorem d_Pr_stepOver_20 : decode b_Pr_stepOver 20 = .ok (.iconst 1, 1) := by decide +kernel
theorem d_Pr_stepOver_21 : decode b_Pr_stepOver 21 = .ok (.iadd, 1) := by decide +kernel
theorem d_Pr_stepOver_22 : decode b_Pr_stepOver 22 = .ok (.putfield 65, 3) := by decide +kernel
theorem d_Pr_stepOver_25 : decode b_Pr_stepOver 25 = .ok (.aload_n 0, 1) := by decide +kernel
theorem d_Pr_stepOver_26 : decode b_Pr_stepOver 26 = .ok (.iconst 0, 1) := by decide +kernel
theorem d_Pr_stepOver_27 : decode b_Pr_stepOver 27 = .ok (.putfield 45, 3) := by decide +kernel
theorem d_Pr_stepOver_30 : decode b_Pr_stepOver 30 = .ok (.return_, 1) := by decide +kernel
theorem d_Co_held_0 : decode b_Co_held 0 = .ok (.iload_n 1, 1) := by decide +kernel
theorem d_Co_held_1 : decode b_Co_held 1 = .ok (.bipush 32, 2) := by decide +kernel
theorem d_Co_held_3 : decode b_Co_held 3 = .ok (.if_icmp .ge 16, 3) := by decide +kernel
theorem d_Co_held_6 : decode b_Co_held 6 = .ok (.aload_n 0, 1) := by decide +kernel
theorem d_Co_held_7 : decode b_Co_held 7 = .ok (.getfield 23, 3) := by decide +kernel
theorem d_Co_held_10 : decode b_Co_held 10 = .ok (.getfield 127, 3) := by decide +kernel
theorem d_Co_held_13 : decode b_Co_held 13 = .ok (.iload_n 1, 1) := by decide +kernel
theorem d_Co_held_14 : decode b_Co_held 14 = .ok (.bipush 31, 2) := by decide +kernel
theorem d_Co_held_16 : decode b_Co_held 16 = .ok (.iand, 1) := by decide +kernel
theorem d_Co_held_17 : decode b_Co_held 17 = .ok (.iaload, 1) := by decide +kernel
theorem d_Co_held_18 : decode b_Co_held 18 = .ok (.ireturn, 1) := by decide +kernel
theorem d_Co_held_19 : decode b_Co_held 19 = .ok (.iload_n 1, 1) := by decide +kernel
theorem d_Co_held_20 : decode b_Co_held 20 = .ok (.bipush 32, 2) := by decide +kernel
theorem d_Co_held_22 : decode b_Co_held 22 = .ok (.if_icmp .ne 14, 3) := by decide +kernel
theorem d_Co_held_25 : decode b_Co_held 25 = .ok (.aload_n 0, 1) := by decide +kernel
theorem d_Co_held_26 : decode b_Co_held 26 = .ok (.getfield 23, 3) := by decide +kernel
theorem d_Co_held_29 : decode b_Co_held 29 = .ok (.getfield 68, 3) := by decide +kernel
theorem d_Co_held_32 : decode b_Co_held 32 = .ok (.getfield 131, 3) := by decide +kernel
theorem d_Co_held_35 : decode b_Co_held 35 = .ok (.ireturn, 1) := by decide +kernel
theorem d_Co_held_36 : decode b_Co_held 36 = .ok (.iload_n 1, 1) := by decide +kernel
theorem d_Co_held_37 : decode b_Co_held 37 = .ok (.bipush 33, 2) := by decide +kernel
theorem d_Co_held_39 : decode b_Co_held 39 = .ok (.if_icmp .ne 14, 3) := by decide +kernel
theorem d_Co_held_42 : decode b_Co_held 42 = .ok (.aload_n 0, 1) := by decide +kernel
theorem d_Co_held_43 : decode b_Co_held 43 = .ok (.getfield 23, 3) := by decide +kernel
theorem d_Co_held_46 : decode b_Co_held 46 = .ok (.getfield 68, 3) := by decide +kernel
theorem d_Co_held_49 : decode b_Co_held 49 = .ok (.getfield 134, 3) := by decide +kernel
theorem d_Co_held_52 : decode b_Co_held 52 = .ok (.ireturn, 1) := by decide +kernel
theorem d_Co_held_53 : decode b_Co_held 53 = .ok (.iload_n 1, 1) := by decide +kernel
theorem d_Co_held_54 : decode b_Co_held 54 = .ok (.bipush 66, 2) := by decide +kernel
theorem d_Co_held_56 : decode b_Co_held 56 = .ok (.if_icmp .ge 22, 3) := by decide +kernel
