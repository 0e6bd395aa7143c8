theorem d_Md_fractions_121 : decode b_Md_fractions 121 = .ok (.iushr, 1) := by decide +kernel
theorem d_Md_fractions_122 : decode b_Md_fractions 122 = .ok (.iconst 1, 1) := by decide +kernel
theorem d_Md_fractions_123 : decode b_Md_fractions 123 = .ok (.iand, 1) := by decide +kernel
theorem d_Md_fractions_124 : decode b_Md_fractions 124 = .ok (.iconst 1, 1) := by decide +kernel
theorem d_Md_fractions_125 : decode b_Md_fractions 125 = .ok (.if_icmp .ne 7, 3) := by decide +kernel
theorem d_Md_fractions_128 : decode b_Md_fractions 128 = .ok (.iconst 1, 1) := by decide +kernel
theorem d_Md_fractions_129 : decode b_Md_fractions 129 = .ok (.goto 4, 3) := by decide +kernel
theorem d_Md_fractions_132 : decode b_Md_fractions 132 = .ok (.iconst 0, 1) := by decide +kernel
theorem d_Md_fractions_133 : decode b_Md_fractions 133 = .ok (.invokevirtual 124, 3) := by decide +kernel
theorem d_Md_fractions_136 : decode b_Md_fractions 136 = .ok (.goto 192, 3) := by decide +kernel
theorem d_Md_fractions_139 : decode b_Md_fractions 139 = .ok (.iload_n 1, 1) := by decide +kernel
theorem d_Md_fractions_140 : decode b_Md_fractions 140 = .ok (.bipush 16, 2) := by decide +kernel
theorem d_Md_fractions_142 : decode b_Md_fractions 142 = .ok (.if_icmp .eq 9, 3) := by decide +kernel
theorem d_Md_fractions_145 : decode b_Md_fractions 145 = .ok (.iload_n 1, 1) := by decide +kernel
theorem d_Md_fractions_146 : decode b_Md_fractions 146 = .ok (.bipush 17, 2) := by decide +kernel
theorem d_Md_fractions_148 : decode b_Md_fractions 148 = .ok (.if_icmp .ne 36, 3) := by decide +kernel
theorem d_Md_fractions_151 : decode b_Md_fractions 151 = .ok (.aload_n 0, 1) := by decide +kernel
theorem d_Md_fractions_152 : decode b_Md_fractions 152 = .ok (.aload_n 0, 1) := by decide +kernel
theorem d_Md_fractions_153 : decode b_Md_fractions 153 = .ok (.getfield 82, 3) := by decide +kernel
theorem d_Md_fractions_156 : decode b_Md_fractions 156 = .ok (.bipush 63, 2) := by decide +kernel
theorem d_Md_fractions_158 : decode b_Md_fractions 158 = .ok (.iand, 1) := by decide +kernel
theorem d_Md_fractions_159 : decode b_Md_fractions 159 = .ok (.iload_n 1, 1) := by decide +kernel
theorem d_Md_fractions_160 : decode b_Md_fractions 160 = .ok (.bipush 17, 2) := by decide +kernel
theorem d_Md_fractions_162 : decode b_Md_fractions 162 = .ok (.if_icmp .ne 7, 3) := by decide +kernel
theorem d_Md_fractions_165 : decode b_Md_fractions 165 = .ok (.iconst 1, 1) := by decide +kernel
theorem d_Md_fractions_166 : decode b_Md_fractions 166 = .ok (.goto 4, 3) := by decide +kernel
theorem d_Md_fractions_169 : decode b_Md_fractions 169 = .ok (.iconst 0, 1) := by decide +kernel
theorem d_Md_fractions_170 : decode b_Md_fractions 170 = .ok (.iload_n 2, 1) := by decide +kernel
theorem d_Md_fractions_171 : decode b_Md_fractions 171 = .ok (.iload_n 3, 1) := by decide +kernel
theorem d_Md_fractions_172 : decode b_Md_fractions 172 = .ok (.aload_n 0, 1) := by decide +kernel
theorem d_Md_fractions_173 : decode b_Md_fractions 173 = .ok (.bipush 6, 2) := by decide +kernel
theorem d_Md_fractions_175 : decode b_Md_fractions 175 = .ok (.invokevirtual 85, 3) := by decide +kernel
theorem d_Md_fractions_178 : decode b_Md_fractions 178 = .ok (.invokevirtual 242, 3) := by decide +kernel
theorem d_Md_fractions_181 : decode b_Md_fractions 181 = .ok (.goto 147, 3) := by decide +kernel
theorem d_Md_fractions_184 : decode b_Md_fractions 184 = .ok (.iload_n 1, 1) := by decide +kernel
theorem d_Md_fractions_185 : decode b_Md_fractions 185 = .ok (.bipush 20, 2) := by decide +kernel
theorem d_Md_fractions_187 : decode b_Md_fractions 187 = .ok (.if_icmp .ne 136, 3) := by decide +kernel
theorem d_Md_fractions_190 : decode b_Md_fractions 190 = .ok (.aload_n 0, 1) := by decide +kernel
theorem d_Md_fractions_191 : decode b_Md_fractions 191 = .ok (.getfield 82, 3) := by decide +kernel
theorem d_Md_fractions_194 : decode b_Md_fractions 194 = .ok (.bipush 63, 2) := by decide +kernel
theorem d_Md_fractions_196 : decode b_Md_fractions 196 = .ok (.iand, 1) := by decide +kernel
theorem d_Md_fractions_197 : decode b_Md_fractions 197 = .ok (.bipush 32, 2) := by decide +kernel
theorem d_Md_fractions_199 : decode b_Md_fractions 199 = .ok (.if_icmp .lt 124, 3) := by decide +kernel
theorem d_Md_fractions_202 : decode b_Md_fractions 202 = .ok (.aload_n 0, 1) := by decide +kernel
theorem d_Md_fractions_203 : decode b_Md_fractions 203 = .ok (.getfield 82, 3) := by decide +kernel
theorem d_Md_fractions_206 : decode b_Md_fractions 206 = .ok (.bipush 63, 2) := by decide +kernel
theorem d_Md_fractions_208 : decode b_Md_fractions 208 = .ok (.iand, 1) := by decide +kernel
theorem d_Md_fractions_209 : decode b_Md_fractions 209 = .ok (.bipush 33, 2) := by decide +kernel
theorem d_Md_fractions_211 : decode b_Md_fractions 211 = .ok (.if_icmp .gt 112, 3) := by decide +kernel
theorem d_Md_fractions_214 : decode b_Md_fractions 214 = .ok (.aload_n 0, 1) := by decide +kernel
theorem d_Md_fractions_215 : decode b_Md_fractions 215 = .ok (.getfield 82, 3) := by decide +kernel
theorem d_Md_fractions_218 : decode b_Md_fractions 218 = .ok (.bipush 63, 2) := by decide +kernel
theorem d_Md_fractions_220 : decode b_Md_fractions 220 = .ok (.iand, 1) := by decide +kernel
theorem d_Md_fractions_221 : decode b_Md_fractions 221 = .ok (.bipush 33, 2) := by decide +kernel
theorem d_Md_fractions_223 : decode b_Md_fractions 223 = .ok (.if_icmp .ne 7, 3) := by decide +kernel
theorem d_Md_fractions_226 : decode b_Md_fractions 226 = .ok (.iconst 1, 1) := by decide +kernel
theorem d_Md_fractions_227 : decode b_Md_fractions 227 = .ok (.goto 4, 3) := by decide +kernel
theorem d_Md_fractions_230 : decode b_Md_fractions 230 = .ok (.iconst 0, 1) := by decide +kernel
theorem d_Md_fractions_231 : decode b_Md_fractions 231 = .ok (.istore 4, 2) := by decide +kernel
theorem d_Md_fractions_233 : decode b_Md_fractions 233 = .ok (.aload_n 0, 1) := by decide +kernel
theorem d_Md_fractions_234 : decode b_Md_fractions 234 = .ok (.getfield 14, 3) := by decide +kernel
theorem d_Md_fractions_237 : decode b_Md_fractions 237 = .ok (.bipush 34, 2) := by decide +kernel
theorem d_Md_fractions_239 : decode b_Md_fractions 239 = .ok (.iload_n 2, 1) := by decide +kernel
theorem d_Md_fractions_240 : decode b_Md_fractions 240 = .ok (.iadd, 1) := by decide +kernel
theorem d_Md_fractions_241 : decode b_Md_fractions 241 = .ok (.iaload, 1) := by decide +kernel
theorem d_Md_fractions_242 : decode b_Md_fractions 242 = .ok (.istore 5, 2) := by decide +kernel
theorem d_Md_fractions_244 : decode b_Md_fractions 244 = .ok (.iload 4, 2) := by decide +kernel
theorem d_Md_fractions_246 : decode b_Md_fractions 246 = .ok (.ifCond .eq 21, 3) := by decide +kernel
theorem d_Md_fractions_249 : decode b_Md_fractions 249 = .ok (.aload_n 0, 1) := by decide +kernel
theorem d_Md_fractions_250 : decode b_Md_fractions 250 = .ok (.bipush 6, 2) := by decide +kernel
theorem d_Md_fractions_252 : decode b_Md_fractions 252 = .ok (.invokevirtual 85, 3) := by decide +kernel
theorem d_Md_fractions_255 : decode b_Md_fractions 255 = .ok (.iconst 1, 1) := by decide +kernel
theorem d_Md_fractions_256 : decode b_Md_fractions 256 = .ok (.iand, 1) := by decide +kernel
theorem d_Md_fractions_257 : decode b_Md_fractions 257 = .ok (.iconst 1, 1) := by decide +kernel
theorem d_Md_fractions_258 : decode b_Md_fractions 258 = .ok (.if_icmp .ne 9, 3) := by decide +kernel
theorem d_Md_fractions_261 : decode b_Md_fractions 261 = .ok (.aload_n 0, 1) := by decide +kernel
theorem d_Md_fractions_262 : decode b_Md_fractions 262 = .ok (.bipush 8, 2) := by decide +kernel
theorem d_Md_fractions_264 : decode b_Md_fractions 264 = .ok (.invokevirtual 116, 3) := by decide +kernel
theorem d_Md_fractions_267 : decode b_Md_fractions 267 = .ok (.aload_n 0, 1) := by decide +kernel
theorem d_Md_fractions_268 : decode b_Md_fractions 268 = .ok (.aload_n 0, 1) := by decide +kernel
theorem d_Md_fractions_269 : decode b_Md_fractions 269 = .ok (.bipush 6, 2) := by decide +kernel
theorem d_Md_fractions_271 : decode b_Md_fractions 271 = .ok (.invokevirtual 85, 3) := by decide +kernel
theorem d_Md_fractions_274 : decode b_Md_fractions 274 = .ok (.iload 4, 2) := by decide +kernel
theorem d_Md_fractions_276 : decode b_Md_fractions 276 = .ok (.iload 5, 2) := by decide +kernel
theorem d_Md_fractions_278 : decode b_Md_fractions 278 = .ok (.ifCond .ne 7, 3) := by decide +kernel
theorem d_Md_fractions_281 : decode b_Md_fractions 281 = .ok (.lconst 0, 1) := by decide +kernel
theorem d_Md_fractions_282 : decode b_Md_fractions 282 = .ok (.goto 35, 3) := by decide +kernel
theorem d_Md_fractions_285 : decode b_Md_fractions 285 = .ok (.iload 5, 2) := by decide +kernel
theorem d_Md_fractions_287 : decode b_Md_fractions 287 = .ok (.ifCond .ge 7, 3) := by decide +kernel
theorem d_Md_fractions_290 : decode b_Md_fractions 290 = .ok (.iconst 1, 1) := by decide +kernel
theorem d_Md_fractions_291 : decode b_Md_fractions 291 = .ok (.goto 4, 3) := by decide +kernel
theorem d_Md_fractions_294 : decode b_Md_fractions 294 = .ok (.iconst 0, 1) := by decide +kernel
theorem d_Md_fractions_295 : decode b_Md_fractions 295 = .ok (.iload 5, 2) := by decide +kernel
theorem d_Md_fractions_297 : decode b_Md_fractions 297 = .ok (.ifCond .ge 10, 3) := by decide +kernel
theorem d_Md_fractions_300 : decode b_Md_fractions 300 = .ok (.iload 5, 2) := by decide +kernel
theorem d_Md_fractions_302 : decode b_Md_fractions 302 = .ok (.i2l, 1) := by decide +kernel
theorem d_Md_fractions_303 : decode b_Md_fractions 303 = .ok (.lneg, 1) := by decide +kernel
theorem d_Md_fractions_304 : decode b_Md_fractions 304 = .ok (.goto 6, 3) := by decide +kernel
theorem d_Md_fractions_307 : decode b_Md_fractions 307 = .ok (.iload 5, 2) := by decide +kernel
theorem d_Md_fractions_309 : decode b_Md_fractions 309 = .ok (.i2l, 1) := by decide +kernel
theorem d_Md_fractions_310 : decode b_Md_fractions 310 = .ok (.iconst 0, 1) := by decide +kernel
theorem d_Md_fractions_311 : decode b_Md_fractions 311 = .ok (.iconst 0, 1) := by decide +kernel
theorem d_Md_fractions_312 : decode b_Md_fractions 312 = .ok (.iload 4, 2) := by decide +kernel
theorem d_Md_fractions_314 : decode b_Md_fractions 314 = .ok (.invokestatic 246, 3) := by decide +kernel
theorem d_Md_fractions_317 : decode b_Md_fractions 317 = .ok (.invokevirtual 250, 3) := by decide +kernel
theorem d_Md_fractions_320 : decode b_Md_fractions 320 = .ok (.goto 8, 3) := by decide +kernel
theorem d_Md_fractions_323 : decode b_Md_fractions 323 = .ok (.aload_n 0, 1) := by decide +kernel
theorem d_Md_fractions_324 : decode b_Md_fractions 324 = .ok (.iconst 3, 1) := by decide +kernel
theorem d_Md_fractions_325 : decode b_Md_fractions 325 = .ok (.invokevirtual 116, 3) := by decide +kernel
theorem d_Md_fractions_328 : decode b_Md_fractions 328 = .ok (.return_, 1) := by decide +kernel
theorem d_Md_second_0 : decode b_Md_second 0 = .ok (.iload_n 1, 1) := by decide +kernel
theorem d_Md_second_1 : decode b_Md_second 1 = .ok (.iconst 2, 1) := by decide +kernel
theorem d_Md_second_2 : decode b_Md_second 2 = .ok (.if_icmp .ne 35, 3) := by decide +kernel
theorem d_Md_second_5 : decode b_Md_second 5 = .ok (.aload_n 0, 1) := by decide +kernel
theorem d_Md_second_6 : decode b_Md_second 6 = .ok (.aload_n 0, 1) := by decide +kernel
theorem d_Md_second_7 : decode b_Md_second 7 = .ok (.bipush 11, 2) := by decide +kernel
theorem d_Md_second_9 : decode b_Md_second 9 = .ok (.invokevirtual 85, 3) := by decide +kernel
theorem d_Md_second_12 : decode b_Md_second 12 = .ok (.aload_n 0, 1) := by decide +kernel
theorem d_Md_second_13 : decode b_Md_second 13 = .ok (.invokevirtual 132, 3) := by decide +kernel
theorem d_Md_second_16 : decode b_Md_second 16 = .ok (.aload_n 0, 1) := by decide +kernel
theorem d_Md_second_17 : decode b_Md_second 17 = .ok (.invokevirtual 135, 3) := by decide +kernel
theorem d_Md_second_20 : decode b_Md_second 20 = .ok (.imul, 1) := by decide +kernel
theorem d_Md_second_21 : decode b_Md_second 21 = .ok (.invokevirtual 128, 3) := by decide +kernel
theorem d_Md_second_24 : decode b_Md_second 24 = .ok (.aload_n 0, 1) := by decide +kernel
theorem d_Md_second_25 : decode b_Md_second 25 = .ok (.iconst 0, 1) := by decide +kernel
theorem d_Md_second_26 : decode b_Md_second 26 = .ok (.putfield 18, 3) := by decide +kernel
theorem d_Md_second_29 : decode b_Md_second 29 = .ok (.aload_n 0, 1) := by decide +kernel
theorem d_Md_second_30 : decode b_Md_second 30 = .ok (.iconst 0, 1) := by decide +kernel
theorem d_Md_second_31 : decode b_Md_second 31 = .ok (.putfield 22, 3) := by decide +kernel
theorem d_Md_second_34 : decode b_Md_second 34 = .ok (.goto 175, 3) := by decide +kernel
theorem d_Md_second_37 : decode b_Md_second 37 = .ok (.iload_n 1, 1) := by decide +kernel
theorem d_Md_second_38 : decode b_Md_second 38 = .ok (.iconst 2, 1) := by decide +kernel
theorem d_Md_second_39 : decode b_Md_second 39 = .ok (.if_icmp .lt 13, 3) := by decide +kernel
theorem d_Md_second_42 : decode b_Md_second 42 = .ok (.iload_n 1, 1) := by decide +kernel
theorem d_Md_second_43 : decode b_Md_second 43 = .ok (.iconst 4, 1) := by decide +kernel
theorem d_Md_second_44 : decode b_Md_second 44 = .ok (.if_icmp .eq 8, 3) := by decide +kernel
theorem d_Md_second_47 : decode b_Md_second 47 = .ok (.iload_n 1, 1) := by decide +kernel
theorem d_Md_second_48 : decode b_Md_second 48 = .ok (.iconst 5, 1) := by decide +kernel
theorem d_Md_second_49 : decode b_Md_second 49 = .ok (.if_icmp .ne 89, 3) := by decide +kernel
theorem d_Md_second_52 : decode b_Md_second 52 = .ok (.aload_n 0, 1) := by decide +kernel
theorem d_Md_second_53 : decode b_Md_second 53 = .ok (.getfield 18, 3) := by decide +kernel
theorem d_Md_second_56 : decode b_Md_second 56 = .ok (.ifCond .eq 10, 3) := by decide +kernel
theorem d_Md_second_59 : decode b_Md_second 59 = .ok (.aload_n 0, 1) := by decide +kernel
theorem d_Md_second_60 : decode b_Md_second 60 = .ok (.getfield 22, 3) := by decide +kernel
theorem d_Md_second_63 : decode b_Md_second 63 = .ok (.ifCond .ne 10, 3) := by decide +kernel
theorem d_Md_second_66 : decode b_Md_second 66 = .ok (.aload_n 0, 1) := by decide +kernel
theorem d_Md_second_67 : decode b_Md_second 67 = .ok (.bipush 8, 2) := by decide +kernel
theorem d_Md_second_69 : decode b_Md_second 69 = .ok (.invokevirtual 116, 3) := by decide +kernel
theorem d_Md_second_72 : decode b_Md_second 72 = .ok (.return_, 1) := by decide +kernel
theorem d_Md_second_73 : decode b_Md_second 73 = .ok (.aload_n 0, 1) := by decide +kernel
theorem d_Md_second_74 : decode b_Md_second 74 = .ok (.getfield 14, 3) := by decide +kernel
theorem d_Md_second_77 : decode b_Md_second 77 = .ok (.bipush 32, 2) := by decide +kernel
theorem d_Md_second_79 : decode b_Md_second 79 = .ok (.iaload, 1) := by decide +kernel
theorem d_Md_second_80 : decode b_Md_second 80 = .ok (.i2l, 1) := by decide +kernel
theorem d_Md_second_81 : decode b_Md_second 81 = .ok (.bipush 32, 2) := by decide +kernel
theorem d_Md_second_83 : decode b_Md_second 83 = .ok (.lshl, 1) := by decide +kernel
theorem d_Md_second_84 : decode b_Md_second 84 = .ok (.aload_n 0, 1) := by decide +kernel
theorem d_Md_second_85 : decode b_Md_second 85 = .ok (.getfield 14, 3) := by decide +kernel
theorem d_Md_second_88 : decode b_Md_second 88 = .ok (.bipush 33, 2) := by decide +kernel
theorem d_Md_second_90 : decode b_Md_second 90 = .ok (.iaload, 1) := by decide +kernel
theorem d_Md_second_91 : decode b_Md_second 91 = .ok (.i2l, 1) := by decide +kernel
theorem d_Md_second_92 : decode b_Md_second 92 = .ok (.ldc2_w 163, 3) := by decide +kernel
theorem d_Md_second_95 : decode b_Md_second 95 = .ok (.land, 1) := by decide +kernel
theorem d_Md_second_96 : decode b_Md_second 96 = .ok (.lor, 1) := by decide +kernel
theorem d_Md_second_97 : decode b_Md_second 97 = .ok (.lstore_n 2, 1) := by decide +kernel
theorem d_Md_second_98 : decode b_Md_second 98 = .ok (.aload_n 0, 1) := by decide +kernel
theorem d_Md_second_99 : decode b_Md_second 99 = .ok (.iload_n 1, 1) := by decide +kernel
theorem d_Md_second_100 : decode b_Md_second 100 = .ok (.iconst 1, 1) := by decide +kernel
theorem d_Md_second_101 : decode b_Md_second 101 = .ok (.iand, 1) := by decide +kernel
theorem d_Md_second_102 : decode b_Md_second 102 = .ok (.ifCond .ne 7, 3) := by decide +kernel
theorem d_Md_second_105 : decode b_Md_second 105 = .ok (.iconst 1, 1) := by decide +kernel
theorem d_Md_second_106 : decode b_Md_second 106 = .ok (.goto 4, 3) := by decide +kernel
theorem d_Md_second_109 : decode b_Md_second 109 = .ok (.iconst 0, 1) := by decide +kernel
theorem d_Md_second_110 : decode b_Md_second 110 = .ok (.invokevirtual 165, 3) := by decide +kernel
theorem d_Md_second_113 : decode b_Md_second 113 = .ok (.lstore 4, 2) := by decide +kernel
theorem d_Md_second_115 : decode b_Md_second 115 = .ok (.aload_n 0, 1) := by decide +kernel
theorem d_Md_second_116 : decode b_Md_second 116 = .ok (.iload_n 1, 1) := by decide +kernel
theorem d_Md_second_117 : decode b_Md_second 117 = .ok (.iconst 2, 1) := by decide +kernel
theorem d_Md_second_118 : decode b_Md_second 118 = .ok (.if_icmp .ge 10, 3) := by decide +kernel
theorem d_Md_second_121 : decode b_Md_second 121 = .ok (.lload_n 2, 1) := by decide +kernel
theorem d_Md_second_122 : decode b_Md_second 122 = .ok (.lload 4, 2) := by decide +kernel
theorem d_Md_second_124 : decode b_Md_second 124 = .ok (.ladd, 1) := by decide +kernel
theorem d_Md_second_125 : decode b_Md_second 125 = .ok (.goto 7, 3) := by decide +kernel
theorem d_Md_second_128 : decode b_Md_second 128 = .ok (.lload_n 2, 1) := by decide +kernel
theorem d_Md_second_129 : decode b_Md_second 129 = .ok (.lload 4, 2) := by decide +kernel
theorem d_Md_second_131 : decode b_Md_second 131 = .ok (.lsub, 1) := by decide +kernel
theorem d_Md_second_132 : decode b_Md_second 132 = .ok (.invokevirtual 169, 3) := by decide +kernel
theorem d_Md_second_135 : decode b_Md_second 135 = .ok (.goto 74, 3) := by decide +kernel
theorem d_Md_second_138 : decode b_Md_second 138 = .ok (.iload_n 1, 1) := by decide +kernel
theorem d_Md_second_139 : decode b_Md_second 139 = .ok (.bipush 32, 2) := by decide +kernel
theorem d_Md_second_141 : decode b_Md_second 141 = .ok (.if_icmp .eq 9, 3) := by decide +kernel
theorem d_Md_second_144 : decode b_Md_second 144 = .ok (.iload_n 1, 1) := by decide +kernel
theorem d_Md_second_145 : decode b_Md_second 145 = .ok (.bipush 33, 2) := by decide +kernel
theorem d_Md_second_147 : decode b_Md_second 147 = .ok (.if_icmp .ne 57, 3) := by decide +kernel
theorem d_Md_second_150 : decode b_Md_second 150 = .ok (.iload_n 1, 1) := by decide +kernel
theorem d_Md_second_151 : decode b_Md_second 151 = .ok (.bipush 32, 2) := by decide +kernel
theorem d_Md_second_153 : decode b_Md_second 153 = .ok (.if_icmp .ne 10, 3) := by decide +kernel
theorem d_Md_second_156 : decode b_Md_second 156 = .ok (.aload_n 0, 1) := by decide +kernel
theorem d_Md_second_157 : decode b_Md_second 157 = .ok (.invokevirtual 132, 3) := by decide +kernel
theorem d_Md_second_160 : decode b_Md_second 160 = .ok (.goto 9, 3) := by decide +kernel
theorem d_Md_second_163 : decode b_Md_second 163 = .ok (.aload_n 0, 1) := by decide +kernel
theorem d_Md_second_164 : decode b_Md_second 164 = .ok (.invokevirtual 132, 3) := by decide +kernel
theorem d_Md_second_167 : decode b_Md_second 167 = .ok (.iconst (-1), 1) := by decide +kernel
theorem d_Md_second_168 : decode b_Md_second 168 = .ok (.ixor, 1) := by decide +kernel
theorem d_Md_second_169 : decode b_Md_second 169 = .ok (.istore_n 2, 1) := by decide +kernel
theorem d_Md_second_170 : decode b_Md_second 170 = .ok (.iconst 0, 1) := by decide +kernel
theorem d_Md_second_171 : decode b_Md_second 171 = .ok (.istore_n 3, 1) := by decide +kernel
theorem d_Md_second_172 : decode b_Md_second 172 = .ok (.iload_n 3, 1) := by decide +kernel
theorem d_Md_second_173 : decode b_Md_second 173 = .ok (.bipush 32, 2) := by decide +kernel
theorem d_Md_second_175 : decode b_Md_second 175 = .ok (.if_icmp .ge 15, 3) := by decide +kernel
theorem d_Md_second_178 : decode b_Md_second 178 = .ok (.iload_n 2, 1) := by decide +kernel
theorem d_Md_second_179 : decode b_Md_second 179 = .ok (.iload_n 3, 1) := by decide +kernel
theorem d_Md_second_180 : decode b_Md_second 180 = .ok (.ishl, 1) := by decide +kernel
theorem d_Md_second_181 : decode b_Md_second 181 = .ok (.ifCond .lt 9, 3) := by decide +kernel
theorem d_Md_second_184 : decode b_Md_second 184 = .ok (.iinc 3 1, 3) := by decide +kernel
theorem d_Md_second_187 : decode b_Md_second 187 = .ok (.goto (-15), 3) := by decide +kernel
theorem d_Md_second_190 : decode b_Md_second 190 = .ok (.aload_n 0, 1) := by decide +kernel
theorem d_Md_second_191 : decode b_Md_second 191 = .ok (.aload_n 0, 1) := by decide +kernel
theorem d_Md_second_192 : decode b_Md_second 192 = .ok (.bipush 11, 2) := by decide +kernel
theorem d_Md_second_194 : decode b_Md_second 194 = .ok (.invokevirtual 85, 3) := by decide +kernel
theorem d_Md_second_197 : decode b_Md_second 197 = .ok (.iload_n 3, 1) := by decide +kernel
theorem d_Md_second_198 : decode b_Md_second 198 = .ok (.invokevirtual 128, 3) := by decide +kernel
theorem d_Md_second_201 : decode b_Md_second 201 = .ok (.goto 8, 3) := by decide +kernel
theorem d_Md_second_204 : decode b_Md_second 204 = .ok (.aload_n 0, 1) := by decide +kernel
theorem d_Md_second_205 : decode b_Md_second 205 = .ok (.iconst 3, 1) := by decide +kernel
theorem d_Md_second_206 : decode b_Md_second 206 = .ok (.invokevirtual 116, 3) := by decide +kernel
theorem d_Md_second_209 : decode b_Md_second 209 = .ok (.return_, 1) := by decide +kernel
theorem d_Md_branches_0 : decode b_Md_branches 0 = .ok (.iload_n 1, 1) := by decide +kernel
theorem d_Md_branches_1 : decode b_Md_branches 1 = .ok (.iconst 4, 1) := by decide +kernel
theorem d_Md_branches_2 : decode b_Md_branches 2 = .ok (.if_icmp .ge 54, 3) := by decide +kernel
theorem d_Md_branches_5 : decode b_Md_branches 5 = .ok (.aload_n 0, 1) := by decide +kernel
theorem d_Md_branches_6 : decode b_Md_branches 6 = .ok (.iconst 1, 1) := by decide +kernel
theorem d_Md_branches_7 : decode b_Md_branches 7 = .ok (.aload_n 0, 1) := by decide +kernel
theorem d_Md_branches_8 : decode b_Md_branches 8 = .ok (.getfield 54, 3) := by decide +kernel
theorem d_Md_branches_11 : decode b_Md_branches 11 = .ok (.iconst 4, 1) := by decide +kernel
theorem d_Md_branches_12 : decode b_Md_branches 12 = .ok (.iadd, 1) := by decide +kernel
theorem d_Md_branches_13 : decode b_Md_branches 13 = .ok (.ldc 123, 2) := by decide +kernel
theorem d_Md_branches_15 : decode b_Md_branches 15 = .ok (.iand, 1) := by decide +kernel
theorem d_Md_branches_16 : decode b_Md_branches 16 = .ok (.aload_n 0, 1) := by decide +kernel
theorem d_Md_branches_17 : decode b_Md_branches 17 = .ok (.getfield 82, 3) := by decide +kernel
theorem d_Md_branches_20 : decode b_Md_branches 20 = .ok (.bipush 6, 2) := by decide +kernel
theorem d_Md_branches_22 : decode b_Md_branches 22 = .ok (.ishl, 1) := by decide +kernel
theorem d_Md_branches_23 : decode b_Md_branches 23 = .ok (.iconst 4, 1) := by decide +kernel
theorem d_Md_branches_24 : decode b_Md_branches 24 = .ok (.iushr, 1) := by decide +kernel
theorem d_Md_branches_25 : decode b_Md_branches 25 = .ok (.ior, 1) := by decide +kernel
theorem d_Md_branches_26 : decode b_Md_branches 26 = .ok (.iconst 0, 1) := by decide +kernel
theorem d_Md_branches_27 : decode b_Md_branches 27 = .ok (.invokevirtual 124, 3) := by decide +kernel
theorem d_Md_branches_30 : decode b_Md_branches 30 = .ok (.iload_n 1, 1) := by decide +kernel
theorem d_Md_branches_31 : decode b_Md_branches 31 = .ok (.iconst 3, 1) := by decide +kernel
theorem d_Md_branches_32 : decode b_Md_branches 32 = .ok (.if_icmp .ne 23, 3) := by decide +kernel
theorem d_Md_branches_35 : decode b_Md_branches 35 = .ok (.aload_n 0, 1) := by decide +kernel
theorem d_Md_branches_36 : decode b_Md_branches 36 = .ok (.getfield 63, 3) := by decide +kernel
theorem d_Md_branches_39 : decode b_Md_branches 39 = .ok (.ifCond .ne 16, 3) := by decide +kernel
theorem d_Md_branches_42 : decode b_Md_branches 42 = .ok (.aload_n 0, 1) := by decide +kernel
theorem d_Md_branches_43 : decode b_Md_branches 43 = .ok (.bipush 31, 2) := by decide +kernel
theorem d_Md_branches_45 : decode b_Md_branches 45 = .ok (.aload_n 0, 1) := by decide +kernel
theorem d_Md_branches_46 : decode b_Md_branches 46 = .ok (.getfield 54, 3) := by decide +kernel
theorem d_Md_branches_49 : decode b_Md_branches 49 = .ok (.bipush 8, 2) := by decide +kernel
theorem d_Md_branches_51 : decode b_Md_branches 51 = .ok (.iadd, 1) := by decide +kernel
theorem d_Md_branches_52 : decode b_Md_branches 52 = .ok (.invokevirtual 128, 3) := by decide +kernel
theorem d_Md_branches_55 : decode b_Md_branches 55 = .ok (.return_, 1) := by decide +kernel
theorem d_Md_branches_56 : decode b_Md_branches 56 = .ok (.iload_n 1, 1) := by decide +kernel
theorem d_Md_branches_57 : decode b_Md_branches 57 = .ok (.iconst 3, 1) := by decide +kernel
theorem d_Md_branches_58 : decode b_Md_branches 58 = .ok (.iand, 1) := by decide +kernel
theorem d_Md_branches_59 : decode b_Md_branches 59 = .ok (.istore_n 2, 1) := by decide +kernel
theorem d_Md_branches_60 : decode b_Md_branches 60 = .ok (.iload_n 2, 1) := by decide +kernel
theorem d_Md_branches_61 : decode b_Md_branches 61 = .ok (.ifCond .ne 22, 3) := by decide +kernel
theorem d_Md_branches_64 : decode b_Md_branches 64 = .ok (.aload_n 0, 1) := by decide +kernel
theorem d_Md_branches_65 : decode b_Md_branches 65 = .ok (.invokevirtual 132, 3) := by decide +kernel
theorem d_Md_branches_68 : decode b_Md_branches 68 = .ok (.aload_n 0, 1) := by decide +kernel
theorem d_Md_branches_69 : decode b_Md_branches 69 = .ok (.invokevirtual 135, 3) := by decide +kernel
theorem d_Md_branches_72 : decode b_Md_branches 72 = .ok (.if_icmp .ne 7, 3) := by decide +kernel
theorem d_Md_branches_75 : decode b_Md_branches 75 = .ok (.iconst 1, 1) := by decide +kernel
theorem d_Md_branches_76 : decode b_Md_branches 76 = .ok (.goto 63, 3) := by decide +kernel
theorem d_Md_branches_79 : decode b_Md_branches 79 = .ok (.iconst 0, 1) := by decide +kernel
theorem d_Md_branches_80 : decode b_Md_branches 80 = .ok (.goto 59, 3) := by decide +kernel
theorem d_Md_branches_83 : decode b_Md_branches 83 = .ok (.iload_n 2, 1) := by decide +kernel
theorem d_Md_branches_84 : decode b_Md_branches 84 = .ok (.iconst 1, 1) := by decide +kernel
theorem d_Md_branches_85 : decode b_Md_branches 85 = .ok (.if_icmp .ne 22, 3) := by decide +kernel
theorem d_Md_branches_88 : decode b_Md_branches 88 = .ok (.aload_n 0, 1) := by decide +kernel
theorem d_Md_branches_89 : decode b_Md_branches 89 = .ok (.invokevirtual 132, 3) := by decide +kernel
theorem d_Md_branches_92 : decode b_Md_branches 92 = .ok (.aload_n 0, 1) := by decide +kernel
theorem d_Md_branches_93 : decode b_Md_branches 93 = .ok (.invokevirtual 135, 3) := by decide +kernel
theorem d_Md_branches_96 : decode b_Md_branches 96 = .ok (.if_icmp .eq 7, 3) := by decide +kernel
theorem d_Md_branches_99 : decode b_Md_branches 99 = .ok (.iconst 1, 1) := by decide +kernel
theorem d_Md_branches_100 : decode b_Md_branches 100 = .ok (.goto 39, 3) := by decide +kernel
theorem d_Md_branches_103 : decode b_Md_branches 103 = .ok (.iconst 0, 1) := by decide +kernel
theorem d_Md_branches_104 : decode b_Md_branches 104 = .ok (.goto 35, 3) := by decide +kernel
theorem d_Md_branches_107 : decode b_Md_branches 107 = .ok (.iload_n 2, 1) := by decide +kernel
theorem d_Md_branches_108 : decode b_Md_branches 108 = .ok (.iconst 2, 1) := by decide +kernel
theorem d_Md_branches_109 : decode b_Md_branches 109 = .ok (.if_icmp .ne 18, 3) := by decide +kernel
theorem d_Md_branches_112 : decode b_Md_branches 112 = .ok (.aload_n 0, 1) := by decide +kernel
theorem d_Md_branches_113 : decode b_Md_branches 113 = .ok (.invokevirtual 132, 3) := by decide +kernel
theorem d_Md_branches_116 : decode b_Md_branches 116 = .ok (.ifCond .gt 7, 3) := by decide +kernel
theorem d_Md_branches_119 : decode b_Md_branches 119 = .ok (.iconst 1, 1) := by decide +kernel
theorem d_Md_branches_120 : decode b_Md_branches 120 = .ok (.goto 19, 3) := by decide +kernel
theorem d_Md_branches_123 : decode b_Md_branches 123 = .ok (.iconst 0, 1) := by decide +kernel
theorem d_Md_branches_124 : decode b_Md_branches 124 = .ok (.goto 15, 3) := by decide +kernel
theorem d_Md_branches_127 : decode b_Md_branches 127 = .ok (.aload_n 0, 1) := by decide +kernel
theorem d_Md_branches_128 : decode b_Md_branches 128 = .ok (.invokevirtual 132, 3) := by decide +kernel
theorem d_Md_branches_131 : decode b_Md_branches 131 = .ok (.ifCond .le 7, 3) := by decide +kernel
theorem d_Md_branches_134 : decode b_Md_branches 134 = .ok (.iconst 1, 1) := by decide +kernel
theorem d_Md_branches_135 : decode b_Md_branches 135 = .ok (.goto 4, 3) := by decide +kernel
theorem d_Md_branches_138 : decode b_Md_branches 138 = .ok (.iconst 0, 1) := by decide +kernel
theorem d_Md_branches_139 : decode b_Md_branches 139 = .ok (.istore_n 3, 1) := by decide +kernel
theorem d_Md_branches_140 : decode b_Md_branches 140 = .ok (.aload_n 0, 1) := by decide +kernel
theorem d_Md_branches_141 : decode b_Md_branches 141 = .ok (.iload_n 3, 1) := by decide +kernel
theorem d_Md_branches_142 : decode b_Md_branches 142 = .ok (.aload_n 0, 1) := by decide +kernel
theorem d_Md_branches_143 : decode b_Md_branches 143 = .ok (.invokevirtual 138, 3) := by decide +kernel
theorem d_Md_branches_146 : decode b_Md_branches 146 = .ok (.iload_n 1, 1) := by decide +kernel
theorem d_Md_branches_147 : decode b_Md_branches 147 = .ok (.bipush 7, 2) := by decide +kernel
theorem d_Md_branches_149 : decode b_Md_branches 149 = .ok (.if_icmp .le 7, 3) := by decide +kernel
theorem d_Md_branches_152 : decode b_Md_branches 152 = .ok (.iconst 1, 1) := by decide +kernel
theorem d_Md_branches_153 : decode b_Md_branches 153 = .ok (.goto 4, 3) := by decide +kernel
theorem d_Md_branches_156 : decode b_Md_branches 156 = .ok (.iconst 0, 1) := by decide +kernel
theorem d_Md_branches_157 : decode b_Md_branches 157 = .ok (.invokevirtual 124, 3) := by decide +kernel
theorem d_Md_branches_160 : decode b_Md_branches 160 = .ok (.return_, 1) := by decide +kernel
theorem d_Md_numbers_0 : decode b_Md_numbers 0 = .ok (.aload_n 0, 1) := by decide +kernel
theorem d_Md_numbers_1 : decode b_Md_numbers 1 = .ok (.invokevirtual 132, 3) := by decide +kernel
theorem d_Md_numbers_4 : decode b_Md_numbers 4 = .ok (.istore_n 2, 1) := by decide +kernel
theorem d_Md_numbers_5 : decode b_Md_numbers 5 = .ok (.aload_n 0, 1) := by decide +kernel
theorem d_Md_numbers_6 : decode b_Md_numbers 6 = .ok (.bipush 16, 2) := by decide +kernel
theorem d_Md_numbers_8 : decode b_Md_numbers 8 = .ok (.invokevirtual 85, 3) := by decide +kernel
theorem d_Md_numbers_11 : decode b_Md_numbers 11 = .ok (.istore_n 3, 1) := by decide +kernel
theorem d_Md_numbers_12 : decode b_Md_numbers 12 = .ok (.aload_n 0, 1) := by decide +kernel
theorem d_Md_numbers_13 : decode b_Md_numbers 13 = .ok (.getfield 82, 3) := by decide +kernel
theorem d_Md_numbers_16 : decode b_Md_numbers 16 = .ok (.ldc 177, 2) := by decide +kernel
theorem d_Md_numbers_18 : decode b_Md_numbers 18 = .ok (.iand, 1) := by decide +kernel
theorem d_Md_numbers_19 : decode b_Md_numbers 19 = .ok (.istore 4, 2) := by decide +kernel
theorem d_Md_numbers_21 : decode b_Md_numbers 21 = .ok (.iload_n 1, 1) := by decide +kernel
theorem d_Md_numbers_22 : decode b_Md_numbers 22 = .ok (.tableswitch 150 8 14 #[42, 42, 69, 90, 114, 126, 138], 42) := by decide +kernel
theorem d_Md_numbers_64 : decode b_Md_numbers 64 = .ok (.aload_n 0, 1) := by decide +kernel
theorem d_Md_numbers_65 : decode b_Md_numbers 65 = .ok (.iload_n 3, 1) := by decide +kernel
theorem d_Md_numbers_66 : decode b_Md_numbers 66 = .ok (.iload_n 2, 1) := by decide +kernel
theorem d_Md_numbers_67 : decode b_Md_numbers 67 = .ok (.i2l, 1) := by decide +kernel
theorem d_Md_numbers_68 : decode b_Md_numbers 68 = .ok (.aload_n 0, 1) := by decide +kernel
theorem d_Md_numbers_69 : decode b_Md_numbers 69 = .ok (.invokevirtual 119, 3) := by decide +kernel
theorem d_Md_numbers_72 : decode b_Md_numbers 72 = .ok (.i2l, 1) := by decide +kernel
theorem d_Md_numbers_73 : decode b_Md_numbers 73 = .ok (.ladd, 1) := by decide +kernel
theorem d_Md_numbers_74 : decode b_Md_numbers 74 = .ok (.iload_n 1, 1) := by decide +kernel
theorem d_Md_numbers_75 : decode b_Md_numbers 75 = .ok (.bipush 8, 2) := by decide +kernel
theorem d_Md_numbers_77 : decode b_Md_numbers 77 = .ok (.if_icmp .ne 7, 3) := by decide +kernel
theorem d_Md_numbers_80 : decode b_Md_numbers 80 = .ok (.iconst 1, 1) := by decide +kernel
theorem d_Md_numbers_81 : decode b_Md_numbers 81 = .ok (.goto 4, 3) := by decide +kernel
theorem d_Md_numbers_84 : decode b_Md_numbers 84 = .ok (.iconst 0, 1) := by decide +kernel
theorem d_Md_numbers_85 : decode b_Md_numbers 85 = .ok (.invokevirtual 173, 3) := by decide +kernel
theorem d_Md_numbers_88 : decode b_Md_numbers 88 = .ok (.goto 94, 3) := by decide +kernel
theorem d_Md_numbers_91 : decode b_Md_numbers 91 = .ok (.aload_n 0, 1) := by decide +kernel
theorem d_Md_numbers_92 : decode b_Md_numbers 92 = .ok (.iload_n 3, 1) := by decide +kernel
theorem d_Md_numbers_93 : decode b_Md_numbers 93 = .ok (.iload_n 2, 1) := by decide +kernel
theorem d_Md_numbers_94 : decode b_Md_numbers 94 = .ok (.aload_n 0, 1) := by decide +kernel
theorem d_Md_numbers_95 : decode b_Md_numbers 95 = .ok (.invokevirtual 119, 3) := by decide +kernel
theorem d_Md_numbers_98 : decode b_Md_numbers 98 = .ok (.if_icmp .ge 7, 3) := by decide +kernel
theorem d_Md_numbers_101 : decode b_Md_numbers 101 = .ok (.iconst 1, 1) := by decide +kernel
theorem d_Md_numbers_102 : decode b_Md_numbers 102 = .ok (.goto 4, 3) := by decide +kernel
theorem d_Md_numbers_105 : decode b_Md_numbers 105 = .ok (.iconst 0, 1) := by decide +kernel
theorem d_Md_numbers_106 : decode b_Md_numbers 106 = .ok (.invokevirtual 128, 3) := by decide +kernel
theorem d_Md_numbers_109 : decode b_Md_numbers 109 = .ok (.goto 73, 3) := by decide +kernel
theorem d_Md_numbers_112 : decode b_Md_numbers 112 = .ok (.aload_n 0, 1) := by decide +kernel
theorem d_Md_numbers_113 : decode b_Md_numbers 113 = .ok (.iload_n 3, 1) := by decide +kernel
theorem d_Md_numbers_114 : decode b_Md_numbers 114 = .ok (.iload_n 2, 1) := by decide +kernel
theorem d_Md_numbers_115 : decode b_Md_numbers 115 = .ok (.aload_n 0, 1) := by decide +kernel
theorem d_Md_numbers_116 : decode b_Md_numbers 116 = .ok (.invokevirtual 119, 3) := by decide +kernel
theorem d_Md_numbers_119 : decode b_Md_numbers 119 = .ok (.invokestatic 145, 3) := by decide +kernel
theorem d_Md_numbers_122 : decode b_Md_numbers 122 = .ok (.ifCond .eq 7, 3) := by decide +kernel
theorem d_Md_numbers_125 : decode b_Md_numbers 125 = .ok (.iconst 1, 1) := by decide +kernel
theorem d_Md_numbers_126 : decode b_Md_numbers 126 = .ok (.goto 4, 3) := by decide +kernel
theorem d_Md_numbers_129 : decode b_Md_numbers 129 = .ok (.iconst 0, 1) := by decide +kernel
theorem d_Md_numbers_130 : decode b_Md_numbers 130 = .ok (.invokevirtual 128, 3) := by decide +kernel
theorem d_Md_numbers_133 : decode b_Md_numbers 133 = .ok (.goto 49, 3) := by decide +kernel
theorem d_Md_numbers_136 : decode b_Md_numbers 136 = .ok (.aload_n 0, 1) := by decide +kernel
theorem d_Md_numbers_137 : decode b_Md_numbers 137 = .ok (.iload_n 3, 1) := by decide +kernel
theorem d_Md_numbers_138 : decode b_Md_numbers 138 = .ok (.iload_n 2, 1) := by decide +kernel
theorem d_Md_numbers_139 : decode b_Md_numbers 139 = .ok (.iload 4, 2) := by decide +kernel
theorem d_Md_numbers_141 : decode b_Md_numbers 141 = .ok (.iand, 1) := by decide +kernel
theorem d_Md_numbers_142 : decode b_Md_numbers 142 = .ok (.invokevirtual 128, 3) := by decide +kernel
theorem d_Md_numbers_145 : decode b_Md_numbers 145 = .ok (.goto 37, 3) := by decide +kernel
theorem d_Md_numbers_148 : decode b_Md_numbers 148 = .ok (.aload_n 0, 1) := by decide +kernel
theorem d_Md_numbers_149 : decode b_Md_numbers 149 = .ok (.iload_n 3, 1) := by decide +kernel
theorem d_Md_numbers_150 : decode b_Md_numbers 150 = .ok (.iload_n 2, 1) := by decide +kernel
theorem d_Md_numbers_151 : decode b_Md_numbers 151 = .ok (.iload 4, 2) := by decide +kernel
theorem d_Md_numbers_153 : decode b_Md_numbers 153 = .ok (.ior, 1) := by decide +kernel
theorem d_Md_numbers_154 : decode b_Md_numbers 154 = .ok (.invokevirtual 128, 3) := by decide +kernel
theorem d_Md_numbers_157 : decode b_Md_numbers 157 = .ok (.goto 25, 3) := by decide +kernel
theorem d_Md_numbers_160 : decode b_Md_numbers 160 = .ok (.aload_n 0, 1) := by decide +kernel
theorem d_Md_numbers_161 : decode b_Md_numbers 161 = .ok (.iload_n 3, 1) := by decide +kernel
theorem d_Md_numbers_162 : decode b_Md_numbers 162 = .ok (.iload_n 2, 1) := by decide +kernel
theorem d_Md_numbers_163 : decode b_Md_numbers 163 = .ok (.iload 4, 2) := by decide +kernel
theorem d_Md_numbers_165 : decode b_Md_numbers 165 = .ok (.ixor, 1) := by decide +kernel
theorem d_Md_numbers_166 : decode b_Md_numbers 166 = .ok (.invokevirtual 128, 3) := by decide +kernel
theorem d_Md_numbers_169 : decode b_Md_numbers 169 = .ok (.goto 13, 3) := by decide +kernel
theorem d_Md_numbers_172 : decode b_Md_numbers 172 = .ok (.aload_n 0, 1) := by decide +kernel
theorem d_Md_numbers_173 : decode b_Md_numbers 173 = .ok (.iload_n 3, 1) := by decide +kernel
theorem d_Md_numbers_174 : decode b_Md_numbers 174 = .ok (.iload 4, 2) := by decide +kernel
theorem d_Md_numbers_176 : decode b_Md_numbers 176 = .ok (.bipush 16, 2) := by decide +kernel
theorem d_Md_numbers_178 : decode b_Md_numbers 178 = .ok (.ishl, 1) := by decide +kernel
theorem d_Md_numbers_179 : decode b_Md_numbers 179 = .ok (.invokevirtual 128, 3) := by decide +kernel
theorem d_Md_numbers_182 : decode b_Md_numbers 182 = .ok (.return_, 1) := by decide +kernel
theorem d_Md_fractionMemory_0 : decode b_Md_fractionMemory 0 = .ok (.iload_n 1, 1) := by decide +kernel
theorem d_Md_fractionMemory_1 : decode b_Md_fractionMemory 1 = .ok (.bipush 53, 2) := by decide +kernel
theorem d_Md_fractionMemory_3 : decode b_Md_fractionMemory 3 = .ok (.if_icmp .eq 9, 3) := by decide +kernel
theorem d_Md_fractionMemory_6 : decode b_Md_fractionMemory 6 = .ok (.iload_n 1, 1) := by decide +kernel
theorem d_Md_fractionMemory_7 : decode b_Md_fractionMemory 7 = .ok (.bipush 61, 2) := by decide +kernel
theorem d_Md_fractionMemory_9 : decode b_Md_fractionMemory 9 = .ok (.if_icmp .ne 7, 3) := by decide +kernel
theorem d_Md_fractionMemory_12 : decode b_Md_fractionMemory 12 = .ok (.iconst 1, 1) := by decide +kernel
theorem d_Md_fractionMemory_13 : decode b_Md_fractionMemory 13 = .ok (.goto 4, 3) := by decide +kernel
theorem d_Md_fractionMemory_16 : decode b_Md_fractionMemory 16 = .ok (.iconst 0, 1) := by decide +kernel
theorem d_Md_fractionMemory_17 : decode b_Md_fractionMemory 17 = .ok (.istore 4, 2) := by decide +kernel
theorem d_Md_fractionMemory_19 : decode b_Md_fractionMemory 19 = .ok (.iload_n 1, 1) := by decide +kernel
theorem d_Md_fractionMemory_20 : decode b_Md_fractionMemory 20 = .ok (.bipush 56, 2) := by decide +kernel
theorem d_Md_fractionMemory_22 : decode b_Md_fractionMemory 22 = .ok (.if_icmp .ge 7, 3) := by decide +kernel
theorem d_Md_fractionMemory_25 : decode b_Md_fractionMemory 25 = .ok (.iconst 1, 1) := by decide +kernel
theorem d_Md_fractionMemory_26 : decode b_Md_fractionMemory 26 = .ok (.goto 4, 3) := by decide +kernel
theorem d_Md_fractionMemory_29 : decode b_Md_fractionMemory 29 = .ok (.iconst 0, 1) := by decide +kernel
theorem d_Md_fractionMemory_30 : decode b_Md_fractionMemory 30 = .ok (.istore 5, 2) := by decide +kernel
theorem d_Md_fractionMemory_32 : decode b_Md_fractionMemory 32 = .ok (.iload 4, 2) := by decide +kernel
theorem d_Md_fractionMemory_34 : decode b_Md_fractionMemory 34 = .ok (.ifCond .eq 16, 3) := by decide +kernel
theorem d_Md_fractionMemory_37 : decode b_Md_fractionMemory 37 = .ok (.iload_n 3, 1) := by decide +kernel
theorem d_Md_fractionMemory_38 : decode b_Md_fractionMemory 38 = .ok (.iconst 1, 1) := by decide +kernel
theorem d_Md_fractionMemory_39 : decode b_Md_fractionMemory 39 = .ok (.iand, 1) := by decide +kernel
theorem d_Md_fractionMemory_40 : decode b_Md_fractionMemory 40 = .ok (.iconst 1, 1) := by decide +kernel
theorem d_Md_fractionMemory_41 : decode b_Md_fractionMemory 41 = .ok (.if_icmp .ne 9, 3) := by decide +kernel
theorem d_Md_fractionMemory_44 : decode b_Md_fractionMemory 44 = .ok (.aload_n 0, 1) := by decide +kernel
theorem d_Md_fractionMemory_45 : decode b_Md_fractionMemory 45 = .ok (.bipush 8, 2) := by decide +kernel
theorem d_Md_fractionMemory_47 : decode b_Md_fractionMemory 47 = .ok (.invokevirtual 116, 3) := by decide +kernel
theorem d_Md_fractionMemory_50 : decode b_Md_fractionMemory 50 = .ok (.aload_n 0, 1) := by decide +kernel
theorem d_Md_fractionMemory_51 : decode b_Md_fractionMemory 51 = .ok (.iload_n 2, 1) := by decide +kernel
theorem d_Md_fractionMemory_52 : decode b_Md_fractionMemory 52 = .ok (.iload 4, 2) := by decide +kernel
theorem d_Md_fractionMemory_54 : decode b_Md_fractionMemory 54 = .ok (.ifCond .eq 8, 3) := by decide +kernel
theorem d_Md_fractionMemory_57 : decode b_Md_fractionMemory 57 = .ok (.bipush 8, 2) := by decide +kernel
theorem d_Md_fractionMemory_59 : decode b_Md_fractionMemory 59 = .ok (.goto 4, 3) := by decide +kernel
theorem d_Md_fractionMemory_62 : decode b_Md_fractionMemory 62 = .ok (.iconst 4, 1) := by decide +kernel
theorem d_Md_fractionMemory_63 : decode b_Md_fractionMemory 63 = .ok (.invokevirtual 38, 3) := by decide +kernel
theorem d_Md_fractionMemory_66 : decode b_Md_fractionMemory 66 = .ok (.ifCond .ne 17, 3) := by decide +kernel
theorem d_Md_fractionMemory_69 : decode b_Md_fractionMemory 69 = .ok (.aload_n 0, 1) := by decide +kernel
theorem d_Md_fractionMemory_70 : decode b_Md_fractionMemory 70 = .ok (.iload 5, 2) := by decide +kernel
theorem d_Md_fractionMemory_72 : decode b_Md_fractionMemory 72 = .ok (.ifCond .eq 7, 3) := by decide +kernel
theorem d_Md_fractionMemory_75 : decode b_Md_fractionMemory 75 = .ok (.iconst 1, 1) := by decide +kernel
theorem d_Md_fractionMemory_76 : decode b_Md_fractionMemory 76 = .ok (.goto 4, 3) := by decide +kernel
theorem d_Md_fractionMemory_79 : decode b_Md_fractionMemory 79 = .ok (.iconst 2, 1) := by decide +kernel
theorem d_Md_fractionMemory_80 : decode b_Md_fractionMemory 80 = .ok (.invokevirtual 116, 3) := by decide +kernel
theorem d_Md_fractionMemory_83 : decode b_Md_fractionMemory 83 = .ok (.aload_n 0, 1) := by decide +kernel
theorem d_Md_fractionMemory_84 : decode b_Md_fractionMemory 84 = .ok (.getfield 63, 3) := by decide +kernel
theorem d_Md_fractionMemory_87 : decode b_Md_fractionMemory 87 = .ok (.ifCond .le 4, 3) := by decide +kernel
theorem d_Md_fractionMemory_90 : decode b_Md_fractionMemory 90 = .ok (.return_, 1) := by decide +kernel
theorem d_Md_fractionMemory_91 : decode b_Md_fractionMemory 91 = .ok (.aload_n 0, 1) := by decide +kernel
theorem d_Md_fractionMemory_92 : decode b_Md_fractionMemory 92 = .ok (.getfield 29, 3) := by decide +kernel
theorem d_Md_fractionMemory_95 : decode b_Md_fractionMemory 95 = .ok (.iload 5, 2) := by decide +kernel
theorem d_Md_fractionMemory_97 : decode b_Md_fractionMemory 97 = .ok (.ifCond .eq 7, 3) := by decide +kernel
theorem d_Md_fractionMemory_100 : decode b_Md_fractionMemory 100 = .ok (.iconst 1, 1) := by decide +kernel
theorem d_Md_fractionMemory_101 : decode b_Md_fractionMemory 101 = .ok (.goto 4, 3) := by decide +kernel
theorem d_Md_fractionMemory_104 : decode b_Md_fractionMemory 104 = .ok (.iconst 2, 1) := by decide +kernel
theorem d_Md_fractionMemory_105 : decode b_Md_fractionMemory 105 = .ok (.dup2, 1) := by decide +kernel
theorem d_Md_fractionMemory_106 : decode b_Md_fractionMemory 106 = .ok (.iaload, 1) := by decide +kernel
theorem d_Md_fractionMemory_107 : decode b_Md_fractionMemory 107 = .ok (.iconst 1, 1) := by decide +kernel
theorem d_Md_fractionMemory_108 : decode b_Md_fractionMemory 108 = .ok (.iadd, 1) := by decide +kernel
theorem d_Md_fractionMemory_109 : decode b_Md_fractionMemory 109 = .ok (.iastore, 1) := by decide +kernel
theorem d_Md_fractionMemory_110 : decode b_Md_fractionMemory 110 = .ok (.bipush 34, 2) := by decide +kernel
theorem d_Md_fractionMemory_112 : decode b_Md_fractionMemory 112 = .ok (.iload_n 3, 1) := by decide +kernel
theorem d_Md_fractionMemory_113 : decode b_Md_fractionMemory 113 = .ok (.iadd, 1) := by decide +kernel
theorem d_Md_fractionMemory_114 : decode b_Md_fractionMemory 114 = .ok (.istore 6, 2) := by decide +kernel
theorem d_Md_fractionMemory_116 : decode b_Md_fractionMemory 116 = .ok (.iload 5, 2) := by decide +kernel
theorem d_Md_fractionMemory_118 : decode b_Md_fractionMemory 118 = .ok (.ifCond .eq 51, 3) := by decide +kernel
theorem d_Md_fractionMemory_121 : decode b_Md_fractionMemory 121 = .ok (.aload_n 0, 1) := by decide +kernel
theorem d_Md_fractionMemory_122 : decode b_Md_fractionMemory 122 = .ok (.getfield 14, 3) := by decide +kernel
theorem d_Md_fractionMemory_125 : decode b_Md_fractionMemory 125 = .ok (.iload 4, 2) := by decide +kernel
theorem d_Md_fractionMemory_127 : decode b_Md_fractionMemory 127 = .ok (.ifCond .eq 10, 3) := by decide +kernel
theorem d_Md_fractionMemory_130 : decode b_Md_fractionMemory 130 = .ok (.iload 6, 2) := by decide +kernel
theorem d_Md_fractionMemory_132 : decode b_Md_fractionMemory 132 = .ok (.iconst 1, 1) := by decide +kernel
theorem d_Md_fractionMemory_133 : decode b_Md_fractionMemory 133 = .ok (.iadd, 1) := by decide +kernel
theorem d_Md_fractionMemory_134 : decode b_Md_fractionMemory 134 = .ok (.goto 5, 3) := by decide +kernel
theorem d_Md_fractionMemory_137 : decode b_Md_fractionMemory 137 = .ok (.iload 6, 2) := by decide +kernel
theorem d_Md_fractionMemory_139 : decode b_Md_fractionMemory 139 = .ok (.aload_n 0, 1) := by decide +kernel
theorem d_Md_fractionMemory_140 : decode b_Md_fractionMemory 140 = .ok (.iload_n 2, 1) := by decide +kernel
theorem d_Md_fractionMemory_141 : decode b_Md_fractionMemory 141 = .ok (.iconst 4, 1) := by decide +kernel
theorem d_Md_fractionMemory_142 : decode b_Md_fractionMemory 142 = .ok (.invokevirtual 46, 3) := by decide +kernel
theorem d_Md_fractionMemory_145 : decode b_Md_fractionMemory 145 = .ok (.iastore, 1) := by decide +kernel
theorem d_Md_fractionMemory_146 : decode b_Md_fractionMemory 146 = .ok (.iload 4, 2) := by decide +kernel
theorem d_Md_fractionMemory_148 : decode b_Md_fractionMemory 148 = .ok (.ifCond .eq 66, 3) := by decide +kernel
theorem d_Md_fractionMemory_151 : decode b_Md_fractionMemory 151 = .ok (.aload_n 0, 1) := by decide +kernel
theorem d_Md_fractionMemory_152 : decode b_Md_fractionMemory 152 = .ok (.getfield 14, 3) := by decide +kernel
theorem d_Md_fractionMemory_155 : decode b_Md_fractionMemory 155 = .ok (.iload 6, 2) := by decide +kernel
theorem d_Md_fractionMemory_157 : decode b_Md_fractionMemory 157 = .ok (.aload_n 0, 1) := by decide +kernel
theorem d_Md_fractionMemory_158 : decode b_Md_fractionMemory 158 = .ok (.iload_n 2, 1) := by decide +kernel
theorem d_Md_fractionMemory_159 : decode b_Md_fractionMemory 159 = .ok (.iconst 4, 1) := by decide +kernel
theorem d_Md_fractionMemory_160 : decode b_Md_fractionMemory 160 = .ok (.iadd, 1) := by decide +kernel
theorem d_Md_fractionMemory_161 : decode b_Md_fractionMemory 161 = .ok (.iconst 4, 1) := by decide +kernel
theorem d_Md_fractionMemory_162 : decode b_Md_fractionMemory 162 = .ok (.invokevirtual 46, 3) := by decide +kernel
theorem d_Md_fractionMemory_165 : decode b_Md_fractionMemory 165 = .ok (.iastore, 1) := by decide +kernel
theorem d_Md_fractionMemory_166 : decode b_Md_fractionMemory 166 = .ok (.goto 48, 3) := by decide +kernel
theorem d_Md_fractionMemory_169 : decode b_Md_fractionMemory 169 = .ok (.aload_n 0, 1) := by decide +kernel
theorem d_Md_fractionMemory_170 : decode b_Md_fractionMemory 170 = .ok (.iload_n 2, 1) := by decide +kernel
theorem d_Md_fractionMemory_171 : decode b_Md_fractionMemory 171 = .ok (.iconst 4, 1) := by decide +kernel
theorem d_Md_fractionMemory_172 : decode b_Md_fractionMemory 172 = .ok (.aload_n 0, 1) := by decide +kernel
theorem d_Md_fractionMemory_173 : decode b_Md_fractionMemory 173 = .ok (.getfield 14, 3) := by decide +kernel
theorem d_Md_fractionMemory_176 : decode b_Md_fractionMemory 176 = .ok (.iload 4, 2) := by decide +kernel
theorem d_Md_fractionMemory_178 : decode b_Md_fractionMemory 178 = .ok (.ifCond .eq 10, 3) := by decide +kernel
theorem d_Md_fractionMemory_181 : decode b_Md_fractionMemory 181 = .ok (.iload 6, 2) := by decide +kernel
theorem d_Md_fractionMemory_183 : decode b_Md_fractionMemory 183 = .ok (.iconst 1, 1) := by decide +kernel
theorem d_Md_fractionMemory_184 : decode b_Md_fractionMemory 184 = .ok (.iadd, 1) := by decide +kernel
theorem d_Md_fractionMemory_185 : decode b_Md_fractionMemory 185 = .ok (.goto 5, 3) := by decide +kernel
theorem d_Md_fractionMemory_188 : decode b_Md_fractionMemory 188 = .ok (.iload 6, 2) := by decide +kernel
theorem d_Md_fractionMemory_190 : decode b_Md_fractionMemory 190 = .ok (.iaload, 1) := by decide +kernel
theorem d_Md_fractionMemory_191 : decode b_Md_fractionMemory 191 = .ok (.invokevirtual 50, 3) := by decide +kernel
theorem d_Md_fractionMemory_194 : decode b_Md_fractionMemory 194 = .ok (.iload 4, 2) := by decide +kernel
theorem d_Md_fractionMemory_196 : decode b_Md_fractionMemory 196 = .ok (.ifCond .eq 18, 3) := by decide +kernel
theorem d_Md_fractionMemory_199 : decode b_Md_fractionMemory 199 = .ok (.aload_n 0, 1) := by decide +kernel
theorem d_Md_fractionMemory_200 : decode b_Md_fractionMemory 200 = .ok (.iload_n 2, 1) := by decide +kernel
theorem d_Md_fractionMemory_201 : decode b_Md_fractionMemory 201 = .ok (.iconst 4, 1) := by decide +kernel
theorem d_Md_fractionMemory_202 : decode b_Md_fractionMemory 202 = .ok (.iadd, 1) := by decide +kernel
theorem d_Md_fractionMemory_203 : decode b_Md_fractionMemory 203 = .ok (.iconst 4, 1) := by decide +kernel
theorem d_Md_fractionMemory_204 : decode b_Md_fractionMemory 204 = .ok (.aload_n 0, 1) := by decide +kernel
theorem d_Md_fractionMemory_205 : decode b_Md_fractionMemory 205 = .ok (.getfield 14, 3) := by decide +kernel
theorem d_Md_fractionMemory_208 : decode b_Md_fractionMemory 208 = .ok (.iload 6, 2) := by decide +kernel
theorem d_Md_fractionMemory_210 : decode b_Md_fractionMemory 210 = .ok (.iaload, 1) := by decide +kernel
theorem d_Md_fractionMemory_211 : decode b_Md_fractionMemory 211 = .ok (.invokevirtual 50, 3) := by decide +kernel
theorem d_Md_fractionMemory_214 : decode b_Md_fractionMemory 214 = .ok (.return_, 1) := by decide +kernel
theorem d_Md_loads_0 : decode b_Md_loads 0 = .ok (.iload_n 1, 1) := by decide +kernel
theorem d_Md_loads_1 : decode b_Md_loads 1 = .ok (.bipush 32, 2) := by decide +kernel
theorem d_Md_loads_3 : decode b_Md_loads 3 = .ok (.if_icmp .eq 21, 3) := by decide +kernel
theorem d_Md_loads_6 : decode b_Md_loads 6 = .ok (.iload_n 1, 1) := by decide +kernel
theorem d_Md_loads_7 : decode b_Md_loads 7 = .ok (.bipush 36, 2) := by decide +kernel
theorem d_Md_loads_9 : decode b_Md_loads 9 = .ok (.if_icmp .eq 15, 3) := by decide +kernel
theorem d_Md_loads_12 : decode b_Md_loads 12 = .ok (.iload_n 1, 1) := by decide +kernel
theorem d_Md_loads_13 : decode b_Md_loads 13 = .ok (.bipush 34, 2) := by decide +kernel
theorem d_Md_loads_15 : decode b_Md_loads 15 = .ok (.if_icmp .eq 9, 3) := by decide +kernel
theorem d_Md_loads_18 : decode b_Md_loads 18 = .ok (.iload_n 1, 1) := by decide +kernel
theorem d_Md_loads_19 : decode b_Md_loads 19 = .ok (.bipush 38, 2) := by decide +kernel
theorem d_Md_loads_21 : decode b_Md_loads 21 = .ok (.if_icmp .ne 7, 3) := by decide +kernel
theorem d_Md_loads_24 : decode b_Md_loads 24 = .ok (.iconst 1, 1) := by decide +kernel
theorem d_Md_loads_25 : decode b_Md_loads 25 = .ok (.goto 14, 3) := by decide +kernel
theorem d_Md_loads_28 : decode b_Md_loads 28 = .ok (.iload_n 1, 1) := by decide +kernel
theorem d_Md_loads_29 : decode b_Md_loads 29 = .ok (.bipush 35, 2) := by decide +kernel
theorem d_Md_loads_31 : decode b_Md_loads 31 = .ok (.if_icmp .ne 7, 3) := by decide +kernel
theorem d_Md_loads_34 : decode b_Md_loads 34 = .ok (.iconst 4, 1) := by decide +kernel
theorem d_Md_loads_35 : decode b_Md_loads 35 = .ok (.goto 4, 3) := by decide +kernel
theorem d_Md_loads_38 : decode b_Md_loads 38 = .ok (.iconst 2, 1) := by decide +kernel
theorem d_Md_loads_39 : decode b_Md_loads 39 = .ok (.istore 4, 2) := by decide +kernel
theorem d_Md_loads_41 : decode b_Md_loads 41 = .ok (.aload_n 0, 1) := by decide +kernel
theorem d_Md_loads_42 : decode b_Md_loads 42 = .ok (.iload_n 2, 1) := by decide +kernel
theorem d_Md_loads_43 : decode b_Md_loads 43 = .ok (.iload 4, 2) := by decide +kernel
theorem d_Md_loads_45 : decode b_Md_loads 45 = .ok (.invokevirtual 38, 3) := by decide +kernel
theorem d_Md_loads_48 : decode b_Md_loads 48 = .ok (.ifCond .ne 8, 3) := by decide +kernel
theorem d_Md_loads_51 : decode b_Md_loads 51 = .ok (.aload_n 0, 1) := by decide +kernel
theorem d_Md_loads_52 : decode b_Md_loads 52 = .ok (.iconst 1, 1) := by decide +kernel
theorem d_Md_loads_53 : decode b_Md_loads 53 = .ok (.invokevirtual 116, 3) := by decide +kernel
theorem d_Md_loads_56 : decode b_Md_loads 56 = .ok (.aload_n 0, 1) := by decide +kernel
theorem d_Md_loads_57 : decode b_Md_loads 57 = .ok (.getfield 63, 3) := by decide +kernel
theorem d_Md_loads_60 : decode b_Md_loads 60 = .ok (.ifCond .le 4, 3) := by decide +kernel
theorem d_Md_loads_63 : decode b_Md_loads 63 = .ok (.return_, 1) := by decide +kernel
theorem d_Md_loads_64 : decode b_Md_loads 64 = .ok (.aload_n 0, 1) := by decide +kernel
theorem d_Md_loads_65 : decode b_Md_loads 65 = .ok (.getfield 29, 3) := by decide +kernel
theorem d_Md_loads_68 : decode b_Md_loads 68 = .ok (.iconst 1, 1) := by decide +kernel
theorem d_Md_loads_69 : decode b_Md_loads 69 = .ok (.dup2, 1) := by decide +kernel
theorem d_Md_loads_70 : decode b_Md_loads 70 = .ok (.iaload, 1) := by decide +kernel
theorem d_Md_loads_71 : decode b_Md_loads 71 = .ok (.iconst 1, 1) := by decide +kernel
theorem d_Md_loads_72 : decode b_Md_loads 72 = .ok (.iadd, 1) := by decide +kernel
theorem d_Md_loads_73 : decode b_Md_loads 73 = .ok (.iastore, 1) := by decide +kernel
theorem d_Md_loads_74 : decode b_Md_loads 74 = .ok (.bipush 8, 2) := by decide +kernel
theorem d_Md_loads_76 : decode b_Md_loads 76 = .ok (.iload_n 2, 1) := by decide +kernel
theorem d_Md_loads_77 : decode b_Md_loads 77 = .ok (.iconst 3, 1) := by decide +kernel
theorem d_Md_loads_78 : decode b_Md_loads 78 = .ok (.iand, 1) := by decide +kernel
theorem d_Md_loads_79 : decode b_Md_loads 79 = .ok (.imul, 1) := by decide +kernel
theorem d_Md_loads_80 : decode b_Md_loads 80 = .ok (.istore 5, 2) := by decide +kernel
theorem d_Md_loads_82 : decode b_Md_loads 82 = .ok (.aload_n 0, 1) := by decide +kernel
theorem d_Md_loads_83 : decode b_Md_loads 83 = .ok (.iload_n 2, 1) := by decide +kernel
theorem d_Md_loads_84 : decode b_Md_loads 84 = .ok (.bipush (-4), 2) := by decide +kernel
theorem d_Md_loads_86 : decode b_Md_loads 86 = .ok (.iand, 1) := by decide +kernel
theorem d_Md_loads_87 : decode b_Md_loads 87 = .ok (.iconst 4, 1) := by decide +kernel
theorem d_Md_loads_88 : decode b_Md_loads 88 = .ok (.invokevirtual 46, 3) := by decide +kernel
theorem d_Md_loads_91 : decode b_Md_loads 91 = .ok (.istore 6, 2) := by decide +kernel
theorem d_Md_loads_93 : decode b_Md_loads 93 = .ok (.aload_n 0, 1) := by decide +kernel
theorem d_Md_loads_94 : decode b_Md_loads 94 = .ok (.getfield 14, 3) := by decide +kernel
theorem d_Md_loads_97 : decode b_Md_loads 97 = .ok (.iload_n 3, 1) := by decide +kernel
theorem d_Md_loads_98 : decode b_Md_loads 98 = .ok (.iaload, 1) := by decide +kernel
theorem d_Md_loads_99 : decode b_Md_loads 99 = .ok (.istore 7, 2) := by decide +kernel
theorem d_Md_loads_101 : decode b_Md_loads 101 = .ok (.iload_n 1, 1) := by decide +kernel
theorem d_Md_loads_102 : decode b_Md_loads 102 = .ok (.tableswitch 154 32 38 #[42, 62, 82, 154, 154, 154, 115], 42) := by decide +kernel
theorem d_Md_loads_144 : decode b_Md_loads 144 = .ok (.aload_n 0, 1) := by decide +kernel
theorem d_Md_loads_145 : decode b_Md_loads 145 = .ok (.iload_n 3, 1) := by decide +kernel
theorem d_Md_loads_146 : decode b_Md_loads 146 = .ok (.aload_n 0, 1) := by decide +kernel
theorem d_Md_loads_147 : decode b_Md_loads 147 = .ok (.iload_n 2, 1) := by decide +kernel
theorem d_Md_loads_148 : decode b_Md_loads 148 = .ok (.iconst 1, 1) := by decide +kernel
theorem d_Md_loads_149 : decode b_Md_loads 149 = .ok (.invokevirtual 46, 3) := by decide +kernel
theorem d_Md_loads_152 : decode b_Md_loads 152 = .ok (.bipush 24, 2) := by decide +kernel
theorem d_Md_loads_154 : decode b_Md_loads 154 = .ok (.ishl, 1) := by decide +kernel
theorem d_Md_loads_155 : decode b_Md_loads 155 = .ok (.bipush 24, 2) := by decide +kernel
theorem d_Md_loads_157 : decode b_Md_loads 157 = .ok (.ishr, 1) := by decide +kernel
theorem d_Md_loads_158 : decode b_Md_loads 158 = .ok (.invokevirtual 128, 3) := by decide +kernel
theorem d_Md_loads_161 : decode b_Md_loads 161 = .ok (.goto 107, 3) := by decide +kernel
theorem d_Md_loads_164 : decode b_Md_loads 164 = .ok (.aload_n 0, 1) := by decide +kernel
theorem d_Md_loads_165 : decode b_Md_loads 165 = .ok (.iload_n 3, 1) := by decide +kernel
theorem d_Md_loads_166 : decode b_Md_loads 166 = .ok (.aload_n 0, 1) := by decide +kernel
theorem d_Md_loads_167 : decode b_Md_loads 167 = .ok (.iload_n 2, 1) := by decide +kernel
theorem d_Md_loads_168 : decode b_Md_loads 168 = .ok (.iconst 2, 1) := by decide +kernel
theorem d_Md_loads_169 : decode b_Md_loads 169 = .ok (.invokevirtual 46, 3) := by decide +kernel
theorem d_Md_loads_172 : decode b_Md_loads 172 = .ok (.bipush 16, 2) := by decide +kernel
theorem d_Md_loads_174 : decode b_Md_loads 174 = .ok (.ishl, 1) := by decide +kernel
theorem d_Md_loads_175 : decode b_Md_loads 175 = .ok (.bipush 16, 2) := by decide +kernel
theorem d_Md_loads_177 : decode b_Md_loads 177 = .ok (.ishr, 1) := by decide +kernel
theorem d_Md_loads_178 : decode b_Md_loads 178 = .ok (.invokevirtual 128, 3) := by decide +kernel
theorem d_Md_loads_181 : decode b_Md_loads 181 = .ok (.goto 87, 3) := by decide +kernel
theorem d_Md_loads_184 : decode b_Md_loads 184 = .ok (.aload_n 0, 1) := by decide +kernel
theorem d_Md_loads_185 : decode b_Md_loads 185 = .ok (.iload_n 3, 1) := by decide +kernel
theorem d_Md_loads_186 : decode b_Md_loads 186 = .ok (.iload 5, 2) := by decide +kernel
theorem d_Md_loads_188 : decode b_Md_loads 188 = .ok (.ifCond .ne 8, 3) := by decide +kernel
theorem d_Md_loads_191 : decode b_Md_loads 191 = .ok (.iload 6, 2) := by decide +kernel
theorem d_Md_loads_193 : decode b_Md_loads 193 = .ok (.goto 18, 3) := by decide +kernel
theorem d_Md_loads_196 : decode b_Md_loads 196 = .ok (.iload 6, 2) := by decide +kernel
theorem d_Md_loads_198 : decode b_Md_loads 198 = .ok (.iload 5, 2) := by decide +kernel
theorem d_Md_loads_200 : decode b_Md_loads 200 = .ok (.ishl, 1) := by decide +kernel
theorem d_Md_loads_201 : decode b_Md_loads 201 = .ok (.iload 7, 2) := by decide +kernel
theorem d_Md_loads_203 : decode b_Md_loads 203 = .ok (.iconst 1, 1) := by decide +kernel
theorem d_Md_loads_204 : decode b_Md_loads 204 = .ok (.iload 5, 2) := by decide +kernel
theorem d_Md_loads_206 : decode b_Md_loads 206 = .ok (.ishl, 1) := by decide +kernel
theorem d_Md_loads_207 : decode b_Md_loads 207 = .ok (.iconst 1, 1) := by decide +kernel
theorem d_Md_loads_208 : decode b_Md_loads 208 = .ok (.isub, 1) := by decide +kernel
theorem d_Md_loads_209 : decode b_Md_loads 209 = .ok (.iand, 1) := by decide +kernel
theorem d_Md_loads_210 : decode b_Md_loads 210 = .ok (.ior, 1) := by decide +kernel
theorem d_Md_loads_211 : decode b_Md_loads 211 = .ok (.invokevirtual 128, 3) := by decide +kernel
theorem d_Md_loads_214 : decode b_Md_loads 214 = .ok (.goto 54, 3) := by decide +kernel
theorem d_Md_loads_217 : decode b_Md_loads 217 = .ok (.aload_n 0, 1) := by decide +kernel
theorem d_Md_loads_218 : decode b_Md_loads 218 = .ok (.iload_n 3, 1) := by decide +kernel
theorem d_Md_loads_219 : decode b_Md_loads 219 = .ok (.iload 5, 2) := by decide +kernel
theorem d_Md_loads_221 : decode b_Md_loads 221 = .ok (.bipush 24, 2) := by decide +kernel
theorem d_Md_loads_223 : decode b_Md_loads 223 = .ok (.if_icmp .ne 8, 3) := by decide +kernel
theorem d_Md_loads_226 : decode b_Md_loads 226 = .ok (.iload 6, 2) := by decide +kernel
theorem d_Md_loads_228 : decode b_Md_loads 228 = .ok (.goto 22, 3) := by decide +kernel
theorem d_Md_loads_231 : decode b_Md_loads 231 = .ok (.iload 7, 2) := by decide +kernel
theorem d_Md_loads_233 : decode b_Md_loads 233 = .ok (.iconst (-1), 1) := by decide +kernel
theorem d_Md_loads_234 : decode b_Md_loads 234 = .ok (.iload 5, 2) := by decide +kernel
theorem d_Md_loads_236 : decode b_Md_loads 236 = .ok (.bipush 8, 2) := by decide +kernel
theorem d_Md_loads_238 : decode b_Md_loads 238 = .ok (.iadd, 1) := by decide +kernel
theorem d_Md_loads_239 : decode b_Md_loads 239 = .ok (.ishl, 1) := by decide +kernel
theorem d_Md_loads_240 : decode b_Md_loads 240 = .ok (.iand, 1) := by decide +kernel
theorem d_Md_loads_241 : decode b_Md_loads 241 = .ok (.iload 6, 2) := by decide +kernel
theorem d_Md_loads_243 : decode b_Md_loads 243 = .ok (.bipush 24, 2) := by decide +kernel
theorem d_Md_loads_245 : decode b_Md_loads 245 = .ok (.iload 5, 2) := by decide +kernel
theorem d_Md_loads_247 : decode b_Md_loads 247 = .ok (.isub, 1) := by decide +kernel
theorem d_Md_loads_248 : decode b_Md_loads 248 = .ok (.iushr, 1) := by decide +kernel
theorem d_Md_loads_249 : decode b_Md_loads 249 = .ok (.ior, 1) := by decide +kernel
theorem d_Md_loads_250 : decode b_Md_loads 250 = .ok (.invokevirtual 128, 3) := by decide +kernel
theorem d_Md_loads_253 : decode b_Md_loads 253 = .ok (.goto 15, 3) := by decide +kernel
theorem d_Md_loads_256 : decode b_Md_loads 256 = .ok (.aload_n 0, 1) := by decide +kernel
theorem d_Md_loads_257 : decode b_Md_loads 257 = .ok (.iload_n 3, 1) := by decide +kernel
theorem d_Md_loads_258 : decode b_Md_loads 258 = .ok (.aload_n 0, 1) := by decide +kernel
theorem d_Md_loads_259 : decode b_Md_loads 259 = .ok (.iload_n 2, 1) := by decide +kernel
theorem d_Md_loads_260 : decode b_Md_loads 260 = .ok (.iload 4, 2) := by decide +kernel
theorem d_Md_loads_262 : decode b_Md_loads 262 = .ok (.invokevirtual 46, 3) := by decide +kernel
theorem d_Md_loads_265 : decode b_Md_loads 265 = .ok (.invokevirtual 128, 3) := by decide +kernel
theorem d_Md_loads_268 : decode b_Md_loads 268 = .ok (.return_, 1) := by decide +kernel
theorem d_Md_stores_0 : decode b_Md_stores 0 = .ok (.iload_n 1, 1) := by decide +kernel
theorem d_Md_stores_1 : decode b_Md_stores 1 = .ok (.bipush 41, 2) := by decide +kernel
theorem d_Md_stores_3 : decode b_Md_stores 3 = .ok (.if_icmp .ne 7, 3) := by decide +kernel
theorem d_Md_stores_6 : decode b_Md_stores 6 = .ok (.iconst 2, 1) := by decide +kernel
theorem d_Md_stores_7 : decode b_Md_stores 7 = .ok (.goto 14, 3) := by decide +kernel
theorem d_Md_stores_10 : decode b_Md_stores 10 = .ok (.iload_n 1, 1) := by decide +kernel
theorem d_Md_stores_11 : decode b_Md_stores 11 = .ok (.bipush 43, 2) := by decide +kernel
theorem d_Md_stores_13 : decode b_Md_stores 13 = .ok (.if_icmp .ne 7, 3) := by decide +kernel
theorem d_Md_stores_16 : decode b_Md_stores 16 = .ok (.iconst 4, 1) := by decide +kernel
theorem d_Md_stores_17 : decode b_Md_stores 17 = .ok (.goto 4, 3) := by decide +kernel
theorem d_Md_stores_20 : decode b_Md_stores 20 = .ok (.iconst 1, 1) := by decide +kernel
theorem d_Md_stores_21 : decode b_Md_stores 21 = .ok (.istore 4, 2) := by decide +kernel
theorem d_Md_stores_23 : decode b_Md_stores 23 = .ok (.aload_n 0, 1) := by decide +kernel
theorem d_Md_stores_24 : decode b_Md_stores 24 = .ok (.iload_n 2, 1) := by decide +kernel
theorem d_Md_stores_25 : decode b_Md_stores 25 = .ok (.iload 4, 2) := by decide +kernel
theorem d_Md_stores_27 : decode b_Md_stores 27 = .ok (.invokevirtual 38, 3) := by decide +kernel
theorem d_Md_stores_30 : decode b_Md_stores 30 = .ok (.ifCond .ne 8, 3) := by decide +kernel
theorem d_Md_stores_33 : decode b_Md_stores 33 = .ok (.aload_n 0, 1) := by decide +kernel
theorem d_Md_stores_34 : decode b_Md_stores 34 = .ok (.iconst 2, 1) := by decide +kernel
theorem d_Md_stores_35 : decode b_Md_stores 35 = .ok (.invokevirtual 116, 3) := by decide +kernel
theorem d_Md_stores_38 : decode b_Md_stores 38 = .ok (.aload_n 0, 1) := by decide +kernel
theorem d_Md_stores_39 : decode b_Md_stores 39 = .ok (.getfield 63, 3) := by decide +kernel
theorem d_Md_stores_42 : decode b_Md_stores 42 = .ok (.ifCond .le 4, 3) := by decide +kernel
theorem d_Md_stores_45 : decode b_Md_stores 45 = .ok (.return_, 1) := by decide +kernel
theorem d_Md_stores_46 : decode b_Md_stores 46 = .ok (.aload_n 0, 1) := by decide +kernel
theorem d_Md_stores_47 : decode b_Md_stores 47 = .ok (.getfield 29, 3) := by decide +kernel
theorem d_Md_stores_50 : decode b_Md_stores 50 = .ok (.iconst 2, 1) := by decide +kernel
theorem d_Md_stores_51 : decode b_Md_stores 51 = .ok (.dup2, 1) := by decide +kernel
theorem d_Md_stores_52 : decode b_Md_stores 52 = .ok (.iaload, 1) := by decide +kernel
theorem d_Md_stores_53 : decode b_Md_stores 53 = .ok (.iconst 1, 1) := by decide +kernel
theorem d_Md_stores_54 : decode b_Md_stores 54 = .ok (.iadd, 1) := by decide +kernel
theorem d_Md_stores_55 : decode b_Md_stores 55 = .ok (.iastore, 1) := by decide +kernel
theorem d_Md_stores_56 : decode b_Md_stores 56 = .ok (.iload_n 2, 1) := by decide +kernel
theorem d_Md_stores_57 : decode b_Md_stores 57 = .ok (.iconst 3, 1) := by decide +kernel
theorem d_Md_stores_58 : decode b_Md_stores 58 = .ok (.iand, 1) := by decide +kernel
theorem d_Md_stores_59 : decode b_Md_stores 59 = .ok (.istore 5, 2) := by decide +kernel
theorem d_Md_stores_61 : decode b_Md_stores 61 = .ok (.iload_n 1, 1) := by decide +kernel
theorem d_Md_stores_62 : decode b_Md_stores 62 = .ok (.bipush 42, 2) := by decide +kernel
theorem d_Md_stores_64 : decode b_Md_stores 64 = .ok (.if_icmp .ne 47, 3) := by decide +kernel
theorem d_Md_stores_67 : decode b_Md_stores 67 = .ok (.iload 5, 2) := by decide +kernel
theorem d_Md_stores_69 : decode b_Md_stores 69 = .ok (.istore 6, 2) := by decide +kernel
theorem d_Md_stores_71 : decode b_Md_stores 71 = .ok (.iload 6, 2) := by decide +kernel
theorem d_Md_stores_73 : decode b_Md_stores 73 = .ok (.iconst 4, 1) := by decide +kernel
theorem d_Md_stores_74 : decode b_Md_stores 74 = .ok (.if_icmp .ge 34, 3) := by decide +kernel
theorem d_Md_stores_77 : decode b_Md_stores 77 = .ok (.aload_n 0, 1) := by decide +kernel
theorem d_Md_stores_78 : decode b_Md_stores 78 = .ok (.iload_n 2, 1) := by decide +kernel
theorem d_Md_stores_79 : decode b_Md_stores 79 = .ok (.bipush (-4), 2) := by decide +kernel
theorem d_Md_stores_81 : decode b_Md_stores 81 = .ok (.iand, 1) := by decide +kernel
theorem d_Md_stores_82 : decode b_Md_stores 82 = .ok (.iload 6, 2) := by decide +kernel
theorem d_Md_stores_84 : decode b_Md_stores 84 = .ok (.iadd, 1) := by decide +kernel
theorem d_Md_stores_85 : decode b_Md_stores 85 = .ok (.iconst 1, 1) := by decide +kernel
theorem d_Md_stores_86 : decode b_Md_stores 86 = .ok (.iload_n 3, 1) := by decide +kernel
theorem d_Md_stores_87 : decode b_Md_stores 87 = .ok (.bipush 24, 2) := by decide +kernel
theorem d_Md_stores_89 : decode b_Md_stores 89 = .ok (.bipush 8, 2) := by decide +kernel
theorem d_Md_stores_91 : decode b_Md_stores 91 = .ok (.iload 6, 2) := by decide +kernel
theorem d_Md_stores_93 : decode b_Md_stores 93 = .ok (.iload 5, 2) := by decide +kernel
theorem d_Md_stores_95 : decode b_Md_stores 95 = .ok (.isub, 1) := by decide +kernel
theorem d_Md_stores_96 : decode b_Md_stores 96 = .ok (.imul, 1) := by decide +kernel
theorem d_Md_stores_97 : decode b_Md_stores 97 = .ok (.isub, 1) := by decide +kernel
theorem d_Md_stores_98 : decode b_Md_stores 98 = .ok (.iushr, 1) := by decide +kernel
theorem d_Md_stores_99 : decode b_Md_stores 99 = .ok (.invokevirtual 50, 3) := by decide +kernel
theorem d_Md_stores_102 : decode b_Md_stores 102 = .ok (.iinc 6 1, 3) := by decide +kernel
theorem d_Md_stores_105 : decode b_Md_stores 105 = .ok (.goto (-34), 3) := by decide +kernel
theorem d_Md_stores_108 : decode b_Md_stores 108 = .ok (.goto 58, 3) := by decide +kernel
theorem d_Md_stores_111 : decode b_Md_stores 111 = .ok (.iload_n 1, 1) := by decide +kernel
theorem d_Md_stores_112 : decode b_Md_stores 112 = .ok (.bipush 46, 2) := by decide +kernel
theorem d_Md_stores_114 : decode b_Md_stores 114 = .ok (.if_icmp .ne 44, 3) := by decide +kernel
theorem d_Md_stores_117 : decode b_Md_stores 117 = .ok (.iconst 0, 1) := by decide +kernel
theorem d_Md_stores_118 : decode b_Md_stores 118 = .ok (.istore 6, 2) := by decide +kernel
theorem d_Md_stores_120 : decode b_Md_stores 120 = .ok (.iload 6, 2) := by decide +kernel
theorem d_Md_stores_122 : decode b_Md_stores 122 = .ok (.iload 5, 2) := by decide +kernel
theorem d_Md_stores_124 : decode b_Md_stores 124 = .ok (.if_icmp .gt 31, 3) := by decide +kernel
theorem d_Md_stores_127 : decode b_Md_stores 127 = .ok (.aload_n 0, 1) := by decide +kernel
theorem d_Md_stores_128 : decode b_Md_stores 128 = .ok (.iload_n 2, 1) := by decide +kernel
theorem d_Md_stores_129 : decode b_Md_stores 129 = .ok (.bipush (-4), 2) := by decide +kernel
theorem d_Md_stores_131 : decode b_Md_stores 131 = .ok (.iand, 1) := by decide +kernel
theorem d_Md_stores_132 : decode b_Md_stores 132 = .ok (.iload 6, 2) := by decide +kernel
theorem d_Md_stores_134 : decode b_Md_stores 134 = .ok (.iadd, 1) := by decide +kernel
theorem d_Md_stores_135 : decode b_Md_stores 135 = .ok (.iconst 1, 1) := by decide +kernel
theorem d_Md_stores_136 : decode b_Md_stores 136 = .ok (.iload_n 3, 1) := by decide +kernel
theorem d_Md_stores_137 : decode b_Md_stores 137 = .ok (.bipush 8, 2) := by decide +kernel
theorem d_Md_stores_139 : decode b_Md_stores 139 = .ok (.iload 5, 2) := by decide +kernel
theorem d_Md_stores_141 : decode b_Md_stores 141 = .ok (.iload 6, 2) := by decide +kernel
theorem d_Md_stores_143 : decode b_Md_stores 143 = .ok (.isub, 1) := by decide +kernel
theorem d_Md_stores_144 : decode b_Md_stores 144 = .ok (.imul, 1) := by decide +kernel
theorem d_Md_stores_145 : decode b_Md_stores 145 = .ok (.iushr, 1) := by decide +kernel
theorem d_Md_stores_146 : decode b_Md_stores 146 = .ok (.invokevirtual 50, 3) := by decide +kernel
theorem d_Md_stores_149 : decode b_Md_stores 149 = .ok (.iinc 6 1, 3) := by decide +kernel
theorem d_Md_stores_152 : decode b_Md_stores 152 = .ok (.goto (-32), 3) := by decide +kernel
theorem d_Md_stores_155 : decode b_Md_stores 155 = .ok (.goto 11, 3) := by decide +kernel
theorem d_Md_stores_158 : decode b_Md_stores 158 = .ok (.aload_n 0, 1) := by decide +kernel
theorem d_Md_stores_159 : decode b_Md_stores 159 = .ok (.iload_n 2, 1) := by decide +kernel
theorem d_Md_stores_160 : decode b_Md_stores 160 = .ok (.iload 4, 2) := by decide +kernel
theorem d_Md_stores_162 : decode b_Md_stores 162 = .ok (.iload_n 3, 1) := by decide +kernel
theorem d_Md_stores_163 : decode b_Md_stores 163 = .ok (.invokevirtual 50, 3) := by decide +kernel
theorem d_Md_stores_166 : decode b_Md_stores 166 = .ok (.return_, 1) := by decide +kernel
theorem d_Md_memories_0 : decode b_Md_memories 0 = .ok (.aload_n 0, 1) := by decide +kernel
theorem d_Md_memories_1 : decode b_Md_memories 1 = .ok (.invokevirtual 132, 3) := by decide +kernel
theorem d_Md_memories_4 : decode b_Md_memories 4 = .ok (.aload_n 0, 1) := by decide +kernel
theorem d_Md_memories_5 : decode b_Md_memories 5 = .ok (.invokevirtual 119, 3) := by decide +kernel
theorem d_Md_memories_8 : decode b_Md_memories 8 = .ok (.iadd, 1) := by decide +kernel
theorem d_Md_memories_9 : decode b_Md_memories 9 = .ok (.istore_n 2, 1) := by decide +kernel
theorem d_Md_memories_10 : decode b_Md_memories 10 = .ok (.aload_n 0, 1) := by decide +kernel
theorem d_Md_memories_11 : decode b_Md_memories 11 = .ok (.bipush 16, 2) := by decide +kernel
theorem d_Md_memories_13 : decode b_Md_memories 13 = .ok (.invokevirtual 85, 3) := by decide +kernel
theorem d_Md_memories_16 : decode b_Md_memories 16 = .ok (.istore_n 3, 1) := by decide +kernel
theorem d_Md_memories_17 : decode b_Md_memories 17 = .ok (.iload_n 1, 1) := by decide +kernel
theorem d_Md_memories_18 : decode b_Md_memories 18 = .ok (.bipush 51, 2) := by decide +kernel
theorem d_Md_memories_20 : decode b_Md_memories 20 = .ok (.if_icmp .ne 4, 3) := by decide +kernel
theorem d_Md_memories_23 : decode b_Md_memories 23 = .ok (.return_, 1) := by decide +kernel
theorem d_Md_memories_24 : decode b_Md_memories 24 = .ok (.iload_n 1, 1) := by decide +kernel
theorem d_Md_memories_25 : decode b_Md_memories 25 = .ok (.bipush 49, 2) := by decide +kernel
theorem d_Md_memories_27 : decode b_Md_memories 27 = .ok (.if_icmp .eq 21, 3) := by decide +kernel
theorem d_Md_memories_30 : decode b_Md_memories 30 = .ok (.iload_n 1, 1) := by decide +kernel
theorem d_Md_memories_31 : decode b_Md_memories 31 = .ok (.bipush 53, 2) := by decide +kernel
theorem d_Md_memories_33 : decode b_Md_memories 33 = .ok (.if_icmp .eq 15, 3) := by decide +kernel
theorem d_Md_memories_36 : decode b_Md_memories 36 = .ok (.iload_n 1, 1) := by decide +kernel
theorem d_Md_memories_37 : decode b_Md_memories 37 = .ok (.bipush 57, 2) := by decide +kernel
theorem d_Md_memories_39 : decode b_Md_memories 39 = .ok (.if_icmp .eq 9, 3) := by decide +kernel
theorem d_Md_memories_42 : decode b_Md_memories 42 = .ok (.iload_n 1, 1) := by decide +kernel
theorem d_Md_memories_43 : decode b_Md_memories 43 = .ok (.bipush 61, 2) := by decide +kernel
theorem d_Md_memories_45 : decode b_Md_memories 45 = .ok (.if_icmp .ne 13, 3) := by decide +kernel
theorem d_Md_memories_48 : decode b_Md_memories 48 = .ok (.aload_n 0, 1) := by decide +kernel
theorem d_Md_memories_49 : decode b_Md_memories 49 = .ok (.iload_n 1, 1) := by decide +kernel
theorem d_Md_memories_50 : decode b_Md_memories 50 = .ok (.iload_n 2, 1) := by decide +kernel
theorem d_Md_memories_51 : decode b_Md_memories 51 = .ok (.iload_n 3, 1) := by decide +kernel
theorem d_Md_memories_52 : decode b_Md_memories 52 = .ok (.invokevirtual 178, 3) := by decide +kernel
theorem d_Md_memories_55 : decode b_Md_memories 55 = .ok (.goto 216, 3) := by decide +kernel
theorem d_Md_memories_58 : decode b_Md_memories 58 = .ok (.iload_n 1, 1) := by decide +kernel
theorem d_Md_memories_59 : decode b_Md_memories 59 = .ok (.bipush 39, 2) := by decide +kernel
theorem d_Md_memories_61 : decode b_Md_memories 61 = .ok (.if_icmp .ge 13, 3) := by decide +kernel
theorem d_Md_memories_64 : decode b_Md_memories 64 = .ok (.aload_n 0, 1) := by decide +kernel
theorem d_Md_memories_65 : decode b_Md_memories 65 = .ok (.iload_n 1, 1) := by decide +kernel
theorem d_Md_memories_66 : decode b_Md_memories 66 = .ok (.iload_n 2, 1) := by decide +kernel
theorem d_Md_memories_67 : decode b_Md_memories 67 = .ok (.iload_n 3, 1) := by decide +kernel
theorem d_Md_memories_68 : decode b_Md_memories 68 = .ok (.invokevirtual 181, 3) := by decide +kernel
theorem d_Md_memories_71 : decode b_Md_memories 71 = .ok (.goto 200, 3) := by decide +kernel
theorem d_Md_memories_74 : decode b_Md_memories 74 = .ok (.iload_n 1, 1) := by decide +kernel
theorem d_Md_memories_75 : decode b_Md_memories 75 = .ok (.bipush 48, 2) := by decide +kernel
theorem d_Md_memories_77 : decode b_Md_memories 77 = .ok (.if_icmp .ne 59, 3) := by decide +kernel
theorem d_Md_memories_80 : decode b_Md_memories 80 = .ok (.aload_n 0, 1) := by decide +kernel
theorem d_Md_memories_81 : decode b_Md_memories 81 = .ok (.iload_n 2, 1) := by decide +kernel
theorem d_Md_memories_82 : decode b_Md_memories 82 = .ok (.iconst 4, 1) := by decide +kernel
theorem d_Md_memories_83 : decode b_Md_memories 83 = .ok (.invokevirtual 38, 3) := by decide +kernel
theorem d_Md_memories_86 : decode b_Md_memories 86 = .ok (.ifCond .ne 8, 3) := by decide +kernel
theorem d_Md_memories_89 : decode b_Md_memories 89 = .ok (.aload_n 0, 1) := by decide +kernel
theorem d_Md_memories_90 : decode b_Md_memories 90 = .ok (.iconst 1, 1) := by decide +kernel
theorem d_Md_memories_91 : decode b_Md_memories 91 = .ok (.invokevirtual 116, 3) := by decide +kernel
theorem d_Md_memories_94 : decode b_Md_memories 94 = .ok (.aload_n 0, 1) := by decide +kernel
theorem d_Md_memories_95 : decode b_Md_memories 95 = .ok (.getfield 63, 3) := by decide +kernel
theorem d_Md_memories_98 : decode b_Md_memories 98 = .ok (.ifCond .le 4, 3) := by decide +kernel
theorem d_Md_memories_101 : decode b_Md_memories 101 = .ok (.return_, 1) := by decide +kernel
theorem d_Md_memories_102 : decode b_Md_memories 102 = .ok (.aload_n 0, 1) := by decide +kernel
theorem d_Md_memories_103 : decode b_Md_memories 103 = .ok (.iload_n 3, 1) := by decide +kernel
theorem d_Md_memories_104 : decode b_Md_memories 104 = .ok (.aload_n 0, 1) := by decide +kernel
theorem d_Md_memories_105 : decode b_Md_memories 105 = .ok (.iload_n 2, 1) := by decide +kernel
theorem d_Md_memories_106 : decode b_Md_memories 106 = .ok (.iconst 4, 1) := by decide +kernel
theorem d_Md_memories_107 : decode b_Md_memories 107 = .ok (.invokevirtual 46, 3) := by decide +kernel
theorem d_Md_memories_110 : decode b_Md_memories 110 = .ok (.invokevirtual 128, 3) := by decide +kernel
theorem d_Md_memories_113 : decode b_Md_memories 113 = .ok (.aload_n 0, 1) := by decide +kernel
theorem d_Md_memories_114 : decode b_Md_memories 114 = .ok (.iconst 1, 1) := by decide +kernel
theorem d_Md_memories_115 : decode b_Md_memories 115 = .ok (.putfield 60, 3) := by decide +kernel
theorem d_Md_memories_118 : decode b_Md_memories 118 = .ok (.aload_n 0, 1) := by decide +kernel
theorem d_Md_memories_119 : decode b_Md_memories 119 = .ok (.iload_n 2, 1) := by decide +kernel
theorem d_Md_memories_120 : decode b_Md_memories 120 = .ok (.putfield 184, 3) := by decide +kernel
theorem d_Md_memories_123 : decode b_Md_memories 123 = .ok (.aload_n 0, 1) := by decide +kernel
theorem d_Md_memories_124 : decode b_Md_memories 124 = .ok (.getfield 29, 3) := by decide +kernel
theorem d_Md_memories_127 : decode b_Md_memories 127 = .ok (.iconst 1, 1) := by decide +kernel
theorem d_Md_memories_128 : decode b_Md_memories 128 = .ok (.dup2, 1) := by decide +kernel
theorem d_Md_memories_129 : decode b_Md_memories 129 = .ok (.iaload, 1) := by decide +kernel
theorem d_Md_memories_130 : decode b_Md_memories 130 = .ok (.iconst 1, 1) := by decide +kernel
theorem d_Md_memories_131 : decode b_Md_memories 131 = .ok (.iadd, 1) := by decide +kernel
theorem d_Md_memories_132 : decode b_Md_memories 132 = .ok (.iastore, 1) := by decide +kernel
theorem d_Md_memories_133 : decode b_Md_memories 133 = .ok (.goto 138, 3) := by decide +kernel
theorem d_Md_memories_136 : decode b_Md_memories 136 = .ok (.iload_n 1, 1) := by decide +kernel
theorem d_Md_memories_137 : decode b_Md_memories 137 = .ok (.bipush 40, 2) := by decide +kernel
theorem d_Md_memories_139 : decode b_Md_memories 139 = .ok (.if_icmp .eq 27, 3) := by decide +kernel
theorem d_Md_memories_142 : decode b_Md_memories 142 = .ok (.iload_n 1, 1) := by decide +kernel
theorem d_Md_memories_143 : decode b_Md_memories 143 = .ok (.bipush 41, 2) := by decide +kernel
theorem d_Md_memories_145 : decode b_Md_memories 145 = .ok (.if_icmp .eq 21, 3) := by decide +kernel
theorem d_Md_memories_148 : decode b_Md_memories 148 = .ok (.iload_n 1, 1) := by decide +kernel
theorem d_Md_memories_149 : decode b_Md_memories 149 = .ok (.bipush 42, 2) := by decide +kernel
theorem d_Md_memories_151 : decode b_Md_memories 151 = .ok (.if_icmp .eq 15, 3) := by decide +kernel
theorem d_Md_memories_154 : decode b_Md_memories 154 = .ok (.iload_n 1, 1) := by decide +kernel
theorem d_Md_memories_155 : decode b_Md_memories 155 = .ok (.bipush 43, 2) := by decide +kernel
theorem d_Md_memories_157 : decode b_Md_memories 157 = .ok (.if_icmp .eq 9, 3) := by decide +kernel
theorem d_Md_memories_160 : decode b_Md_memories 160 = .ok (.iload_n 1, 1) := by decide +kernel
theorem d_Md_memories_161 : decode b_Md_memories 161 = .ok (.bipush 46, 2) := by decide +kernel
theorem d_Md_memories_163 : decode b_Md_memories 163 = .ok (.if_icmp .ne 18, 3) := by decide +kernel
theorem d_Md_memories_166 : decode b_Md_memories 166 = .ok (.aload_n 0, 1) := by decide +kernel
theorem d_Md_memories_167 : decode b_Md_memories 167 = .ok (.iload_n 1, 1) := by decide +kernel
theorem d_Md_memories_168 : decode b_Md_memories 168 = .ok (.iload_n 2, 1) := by decide +kernel
theorem d_Md_memories_169 : decode b_Md_memories 169 = .ok (.aload_n 0, 1) := by decide +kernel
theorem d_Md_memories_170 : decode b_Md_memories 170 = .ok (.getfield 14, 3) := by decide +kernel
theorem d_Md_memories_173 : decode b_Md_memories 173 = .ok (.iload_n 3, 1) := by decide +kernel
theorem d_Md_memories_174 : decode b_Md_memories 174 = .ok (.iaload, 1) := by decide +kernel
theorem d_Md_memories_175 : decode b_Md_memories 175 = .ok (.invokevirtual 187, 3) := by decide +kernel
theorem d_Md_memories_178 : decode b_Md_memories 178 = .ok (.goto 93, 3) := by decide +kernel
theorem d_Md_memories_181 : decode b_Md_memories 181 = .ok (.iload_n 1, 1) := by decide +kernel
theorem d_Md_memories_182 : decode b_Md_memories 182 = .ok (.bipush 56, 2) := by decide +kernel
theorem d_Md_memories_184 : decode b_Md_memories 184 = .ok (.if_icmp .ne 82, 3) := by decide +kernel
theorem d_Md_memories_187 : decode b_Md_memories 187 = .ok (.aload_n 0, 1) := by decide +kernel
theorem d_Md_memories_188 : decode b_Md_memories 188 = .ok (.getfield 60, 3) := by decide +kernel
theorem d_Md_memories_191 : decode b_Md_memories 191 = .ok (.ifCond .eq 11, 3) := by decide +kernel
theorem d_Md_memories_194 : decode b_Md_memories 194 = .ok (.aload_n 0, 1) := by decide +kernel
theorem d_Md_memories_195 : decode b_Md_memories 195 = .ok (.getfield 184, 3) := by decide +kernel
theorem d_Md_memories_198 : decode b_Md_memories 198 = .ok (.iload_n 2, 1) := by decide +kernel
theorem d_Md_memories_199 : decode b_Md_memories 199 = .ok (.if_icmp .eq 9, 3) := by decide +kernel
theorem d_Md_memories_202 : decode b_Md_memories 202 = .ok (.aload_n 0, 1) := by decide +kernel
theorem d_Md_memories_203 : decode b_Md_memories 203 = .ok (.bipush 8, 2) := by decide +kernel
theorem d_Md_memories_205 : decode b_Md_memories 205 = .ok (.invokevirtual 116, 3) := by decide +kernel
theorem d_Md_memories_208 : decode b_Md_memories 208 = .ok (.aload_n 0, 1) := by decide +kernel
theorem d_Md_memories_209 : decode b_Md_memories 209 = .ok (.iload_n 2, 1) := by decide +kernel
theorem d_Md_memories_210 : decode b_Md_memories 210 = .ok (.iconst 4, 1) := by decide +kernel
theorem d_Md_memories_211 : decode b_Md_memories 211 = .ok (.invokevirtual 38, 3) := by decide +kernel
theorem d_Md_memories_214 : decode b_Md_memories 214 = .ok (.ifCond .ne 8, 3) := by decide +kernel
theorem d_Md_memories_217 : decode b_Md_memories 217 = .ok (.aload_n 0, 1) := by decide +kernel
theorem d_Md_memories_218 : decode b_Md_memories 218 = .ok (.iconst 2, 1) := by decide +kernel
theorem d_Md_memories_219 : decode b_Md_memories 219 = .ok (.invokevirtual 116, 3) := by decide +kernel
theorem d_Md_memories_222 : decode b_Md_memories 222 = .ok (.aload_n 0, 1) := by decide +kernel
theorem d_Md_memories_223 : decode b_Md_memories 223 = .ok (.getfield 63, 3) := by decide +kernel
theorem d_Md_memories_226 : decode b_Md_memories 226 = .ok (.ifCond .le 4, 3) := by decide +kernel
theorem d_Md_memories_229 : decode b_Md_memories 229 = .ok (.return_, 1) := by decide +kernel
theorem d_Md_memories_230 : decode b_Md_memories 230 = .ok (.aload_n 0, 1) := by decide +kernel
theorem d_Md_memories_231 : decode b_Md_memories 231 = .ok (.iload_n 2, 1) := by decide +kernel
theorem d_Md_memories_232 : decode b_Md_memories 232 = .ok (.iconst 4, 1) := by decide +kernel
theorem d_Md_memories_233 : decode b_Md_memories 233 = .ok (.aload_n 0, 1) := by decide +kernel
theorem d_Md_memories_234 : decode b_Md_memories 234 = .ok (.getfield 14, 3) := by decide +kernel
theorem d_Md_memories_237 : decode b_Md_memories 237 = .ok (.iload_n 3, 1) := by decide +kernel
theorem d_Md_memories_238 : decode b_Md_memories 238 = .ok (.iaload, 1) := by decide +kernel
theorem d_Md_memories_239 : decode b_Md_memories 239 = .ok (.invokevirtual 50, 3) := by decide +kernel
theorem d_Md_memories_242 : decode b_Md_memories 242 = .ok (.aload_n 0, 1) := by decide +kernel
theorem d_Md_memories_243 : decode b_Md_memories 243 = .ok (.iload_n 3, 1) := by decide +kernel
theorem d_Md_memories_244 : decode b_Md_memories 244 = .ok (.iconst 1, 1) := by decide +kernel
theorem d_Md_memories_245 : decode b_Md_memories 245 = .ok (.invokevirtual 128, 3) := by decide +kernel
theorem d_Md_memories_248 : decode b_Md_memories 248 = .ok (.aload_n 0, 1) := by decide +kernel
theorem d_Md_memories_249 : decode b_Md_memories 249 = .ok (.iconst 0, 1) := by decide +kernel
theorem d_Md_memories_250 : decode b_Md_memories 250 = .ok (.putfield 60, 3) := by decide +kernel
theorem d_Md_memories_253 : decode b_Md_memories 253 = .ok (.aload_n 0, 1) := by decide +kernel
theorem d_Md_memories_254 : decode b_Md_memories 254 = .ok (.getfield 29, 3) := by decide +kernel
theorem d_Md_memories_257 : decode b_Md_memories 257 = .ok (.iconst 2, 1) := by decide +kernel
theorem d_Md_memories_258 : decode b_Md_memories 258 = .ok (.dup2, 1) := by decide +kernel
theorem d_Md_memories_259 : decode b_Md_memories 259 = .ok (.iaload, 1) := by decide +kernel
theorem d_Md_memories_260 : decode b_Md_memories 260 = .ok (.iconst 1, 1) := by decide +kernel
theorem d_Md_memories_261 : decode b_Md_memories 261 = .ok (.iadd, 1) := by decide +kernel
theorem d_Md_memories_262 : decode b_Md_memories 262 = .ok (.iastore, 1) := by decide +kernel
theorem d_Md_memories_263 : decode b_Md_memories 263 = .ok (.goto 8, 3) := by decide +kernel
theorem d_Md_memories_266 : decode b_Md_memories 266 = .ok (.aload_n 0, 1) := by decide +kernel
theorem d_Md_memories_267 : decode b_Md_memories 267 = .ok (.iconst 3, 1) := by decide +kernel
