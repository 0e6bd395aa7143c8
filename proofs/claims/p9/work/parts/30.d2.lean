theorem d_Md_immediate_27 : decode b_Md_immediate 27 = .ok (.iload_n 2, 1) := by decide +kernel
theorem d_Md_immediate_28 : decode b_Md_immediate 28 = .ok (.ifCond .eq 20, 3) := by decide +kernel
theorem d_Md_immediate_31 : decode b_Md_immediate 31 = .ok (.aload_n 0, 1) := by decide +kernel
theorem d_Md_immediate_32 : decode b_Md_immediate 32 = .ok (.bipush 21, 2) := by decide +kernel
theorem d_Md_immediate_34 : decode b_Md_immediate 34 = .ok (.invokevirtual 85, 3) := by decide +kernel
theorem d_Md_immediate_37 : decode b_Md_immediate 37 = .ok (.bipush 31, 2) := by decide +kernel
theorem d_Md_immediate_39 : decode b_Md_immediate 39 = .ok (.if_icmp .ne 9, 3) := by decide +kernel
theorem d_Md_immediate_42 : decode b_Md_immediate 42 = .ok (.aload_n 0, 1) := by decide +kernel
theorem d_Md_immediate_43 : decode b_Md_immediate 43 = .ok (.bipush 8, 2) := by decide +kernel
theorem d_Md_immediate_45 : decode b_Md_immediate 45 = .ok (.invokevirtual 116, 3) := by decide +kernel
theorem d_Md_immediate_48 : decode b_Md_immediate 48 = .ok (.aload_n 0, 1) := by decide +kernel
theorem d_Md_immediate_49 : decode b_Md_immediate 49 = .ok (.iload_n 1, 1) := by decide +kernel
theorem d_Md_immediate_50 : decode b_Md_immediate 50 = .ok (.iconst 1, 1) := by decide +kernel
theorem d_Md_immediate_51 : decode b_Md_immediate 51 = .ok (.iand, 1) := by decide +kernel
theorem d_Md_immediate_52 : decode b_Md_immediate 52 = .ok (.ifCond .ne 18, 3) := by decide +kernel
theorem d_Md_immediate_55 : decode b_Md_immediate 55 = .ok (.aload_n 0, 1) := by decide +kernel
theorem d_Md_immediate_56 : decode b_Md_immediate 56 = .ok (.invokevirtual 132, 3) := by decide +kernel
theorem d_Md_immediate_59 : decode b_Md_immediate 59 = .ok (.ifCond .ge 7, 3) := by decide +kernel
theorem d_Md_immediate_62 : decode b_Md_immediate 62 = .ok (.iconst 1, 1) := by decide +kernel
theorem d_Md_immediate_63 : decode b_Md_immediate 63 = .ok (.goto 19, 3) := by decide +kernel
theorem d_Md_immediate_66 : decode b_Md_immediate 66 = .ok (.iconst 0, 1) := by decide +kernel
theorem d_Md_immediate_67 : decode b_Md_immediate 67 = .ok (.goto 15, 3) := by decide +kernel
theorem d_Md_immediate_70 : decode b_Md_immediate 70 = .ok (.aload_n 0, 1) := by decide +kernel
theorem d_Md_immediate_71 : decode b_Md_immediate 71 = .ok (.invokevirtual 132, 3) := by decide +kernel
theorem d_Md_immediate_74 : decode b_Md_immediate 74 = .ok (.ifCond .lt 7, 3) := by decide +kernel
theorem d_Md_immediate_77 : decode b_Md_immediate 77 = .ok (.iconst 1, 1) := by decide +kernel
theorem d_Md_immediate_78 : decode b_Md_immediate 78 = .ok (.goto 4, 3) := by decide +kernel
theorem d_Md_immediate_81 : decode b_Md_immediate 81 = .ok (.iconst 0, 1) := by decide +kernel
theorem d_Md_immediate_82 : decode b_Md_immediate 82 = .ok (.aload_n 0, 1) := by decide +kernel
theorem d_Md_immediate_83 : decode b_Md_immediate 83 = .ok (.invokevirtual 138, 3) := by decide +kernel
theorem d_Md_immediate_86 : decode b_Md_immediate 86 = .ok (.iload_n 1, 1) := by decide +kernel
theorem d_Md_immediate_87 : decode b_Md_immediate 87 = .ok (.iconst 2, 1) := by decide +kernel
theorem d_Md_immediate_88 : decode b_Md_immediate 88 = .ok (.iand, 1) := by decide +kernel
theorem d_Md_immediate_89 : decode b_Md_immediate 89 = .ok (.iconst 2, 1) := by decide +kernel
theorem d_Md_immediate_90 : decode b_Md_immediate 90 = .ok (.if_icmp .ne 7, 3) := by decide +kernel
theorem d_Md_immediate_93 : decode b_Md_immediate 93 = .ok (.iconst 1, 1) := by decide +kernel
theorem d_Md_immediate_94 : decode b_Md_immediate 94 = .ok (.goto 4, 3) := by decide +kernel
theorem d_Md_immediate_97 : decode b_Md_immediate 97 = .ok (.iconst 0, 1) := by decide +kernel
theorem d_Md_immediate_98 : decode b_Md_immediate 98 = .ok (.invokevirtual 124, 3) := by decide +kernel
theorem d_Md_immediate_101 : decode b_Md_immediate 101 = .ok (.iload_n 2, 1) := by decide +kernel
theorem d_Md_immediate_102 : decode b_Md_immediate 102 = .ok (.ifCond .eq 23, 3) := by decide +kernel
theorem d_Md_immediate_105 : decode b_Md_immediate 105 = .ok (.aload_n 0, 1) := by decide +kernel
theorem d_Md_immediate_106 : decode b_Md_immediate 106 = .ok (.getfield 63, 3) := by decide +kernel
theorem d_Md_immediate_109 : decode b_Md_immediate 109 = .ok (.ifCond .ne 16, 3) := by decide +kernel
theorem d_Md_immediate_112 : decode b_Md_immediate 112 = .ok (.aload_n 0, 1) := by decide +kernel
theorem d_Md_immediate_113 : decode b_Md_immediate 113 = .ok (.bipush 31, 2) := by decide +kernel
theorem d_Md_immediate_115 : decode b_Md_immediate 115 = .ok (.aload_n 0, 1) := by decide +kernel
theorem d_Md_immediate_116 : decode b_Md_immediate 116 = .ok (.getfield 54, 3) := by decide +kernel
theorem d_Md_immediate_119 : decode b_Md_immediate 119 = .ok (.bipush 8, 2) := by decide +kernel
theorem d_Md_immediate_121 : decode b_Md_immediate 121 = .ok (.iadd, 1) := by decide +kernel
theorem d_Md_immediate_122 : decode b_Md_immediate 122 = .ok (.invokevirtual 128, 3) := by decide +kernel
theorem d_Md_immediate_125 : decode b_Md_immediate 125 = .ok (.return_, 1) := by decide +kernel
theorem d_Md_immediate_126 : decode b_Md_immediate 126 = .ok (.iload_n 1, 1) := by decide +kernel
theorem d_Md_immediate_127 : decode b_Md_immediate 127 = .ok (.bipush 8, 2) := by decide +kernel
theorem d_Md_immediate_129 : decode b_Md_immediate 129 = .ok (.if_icmp .lt 34, 3) := by decide +kernel
theorem d_Md_immediate_132 : decode b_Md_immediate 132 = .ok (.iload_n 1, 1) := by decide +kernel
theorem d_Md_immediate_133 : decode b_Md_immediate 133 = .ok (.bipush 15, 2) := by decide +kernel
theorem d_Md_immediate_135 : decode b_Md_immediate 135 = .ok (.if_icmp .ge 28, 3) := by decide +kernel
theorem d_Md_immediate_138 : decode b_Md_immediate 138 = .ok (.iload_n 1, 1) := by decide +kernel
theorem d_Md_immediate_139 : decode b_Md_immediate 139 = .ok (.bipush 13, 2) := by decide +kernel
theorem d_Md_immediate_141 : decode b_Md_immediate 141 = .ok (.if_icmp .eq 22, 3) := by decide +kernel
theorem d_Md_immediate_144 : decode b_Md_immediate 144 = .ok (.aload_n 0, 1) := by decide +kernel
theorem d_Md_immediate_145 : decode b_Md_immediate 145 = .ok (.iload_n 1, 1) := by decide +kernel
theorem d_Md_immediate_146 : decode b_Md_immediate 146 = .ok (.bipush 8, 2) := by decide +kernel
theorem d_Md_immediate_148 : decode b_Md_immediate 148 = .ok (.isub, 1) := by decide +kernel
theorem d_Md_immediate_149 : decode b_Md_immediate 149 = .ok (.aload_n 0, 1) := by decide +kernel
theorem d_Md_immediate_150 : decode b_Md_immediate 150 = .ok (.invokevirtual 132, 3) := by decide +kernel
theorem d_Md_immediate_153 : decode b_Md_immediate 153 = .ok (.aload_n 0, 1) := by decide +kernel
theorem d_Md_immediate_154 : decode b_Md_immediate 154 = .ok (.invokevirtual 119, 3) := by decide +kernel
theorem d_Md_immediate_157 : decode b_Md_immediate 157 = .ok (.invokevirtual 141, 3) := by decide +kernel
theorem d_Md_immediate_160 : decode b_Md_immediate 160 = .ok (.goto 8, 3) := by decide +kernel
theorem d_Md_immediate_163 : decode b_Md_immediate 163 = .ok (.aload_n 0, 1) := by decide +kernel
theorem d_Md_immediate_164 : decode b_Md_immediate 164 = .ok (.iconst 3, 1) := by decide +kernel
theorem d_Md_immediate_165 : decode b_Md_immediate 165 = .ok (.invokevirtual 116, 3) := by decide +kernel
theorem d_Md_immediate_168 : decode b_Md_immediate 168 = .ok (.return_, 1) := by decide +kernel
theorem d_Md_rtNow_0 : decode b_Md_rtNow 0 = .ok (.aload_n 0, 1) := by decide +kernel
theorem d_Md_rtNow_1 : decode b_Md_rtNow 1 = .ok (.invokevirtual 135, 3) := by decide +kernel
theorem d_Md_rtNow_4 : decode b_Md_rtNow 4 = .ok (.ireturn, 1) := by decide +kernel
theorem d_Md_even_0 : decode b_Md_even 0 = .ok (.iload_n 1, 1) := by decide +kernel
theorem d_Md_even_1 : decode b_Md_even 1 = .ok (.ifCond .eq 16, 3) := by decide +kernel
theorem d_Md_even_4 : decode b_Md_even 4 = .ok (.iload_n 2, 1) := by decide +kernel
theorem d_Md_even_5 : decode b_Md_even 5 = .ok (.iconst 1, 1) := by decide +kernel
theorem d_Md_even_6 : decode b_Md_even 6 = .ok (.iand, 1) := by decide +kernel
theorem d_Md_even_7 : decode b_Md_even 7 = .ok (.iconst 1, 1) := by decide +kernel
theorem d_Md_even_8 : decode b_Md_even 8 = .ok (.if_icmp .ne 9, 3) := by decide +kernel
theorem d_Md_even_11 : decode b_Md_even 11 = .ok (.aload_n 0, 1) := by decide +kernel
theorem d_Md_even_12 : decode b_Md_even 12 = .ok (.bipush 8, 2) := by decide +kernel
theorem d_Md_even_14 : decode b_Md_even 14 = .ok (.invokevirtual 116, 3) := by decide +kernel
theorem d_Md_even_17 : decode b_Md_even 17 = .ok (.return_, 1) := by decide +kernel
theorem d_Md_bitsOf_0 : decode b_Md_bitsOf 0 = .ok (.iload_n 2, 1) := by decide +kernel
theorem d_Md_bitsOf_1 : decode b_Md_bitsOf 1 = .ok (.ifCond .eq 34, 3) := by decide +kernel
theorem d_Md_bitsOf_4 : decode b_Md_bitsOf 4 = .ok (.aload_n 0, 1) := by decide +kernel
theorem d_Md_bitsOf_5 : decode b_Md_bitsOf 5 = .ok (.getfield 14, 3) := by decide +kernel
theorem d_Md_bitsOf_8 : decode b_Md_bitsOf 8 = .ok (.bipush 35, 2) := by decide +kernel
theorem d_Md_bitsOf_10 : decode b_Md_bitsOf 10 = .ok (.iload_n 1, 1) := by decide +kernel
theorem d_Md_bitsOf_11 : decode b_Md_bitsOf 11 = .ok (.iadd, 1) := by decide +kernel
theorem d_Md_bitsOf_12 : decode b_Md_bitsOf 12 = .ok (.iaload, 1) := by decide +kernel
theorem d_Md_bitsOf_13 : decode b_Md_bitsOf 13 = .ok (.i2l, 1) := by decide +kernel
theorem d_Md_bitsOf_14 : decode b_Md_bitsOf 14 = .ok (.bipush 32, 2) := by decide +kernel
theorem d_Md_bitsOf_16 : decode b_Md_bitsOf 16 = .ok (.lshl, 1) := by decide +kernel
theorem d_Md_bitsOf_17 : decode b_Md_bitsOf 17 = .ok (.aload_n 0, 1) := by decide +kernel
theorem d_Md_bitsOf_18 : decode b_Md_bitsOf 18 = .ok (.getfield 14, 3) := by decide +kernel
theorem d_Md_bitsOf_21 : decode b_Md_bitsOf 21 = .ok (.bipush 34, 2) := by decide +kernel
theorem d_Md_bitsOf_23 : decode b_Md_bitsOf 23 = .ok (.iload_n 1, 1) := by decide +kernel
theorem d_Md_bitsOf_24 : decode b_Md_bitsOf 24 = .ok (.iadd, 1) := by decide +kernel
theorem d_Md_bitsOf_25 : decode b_Md_bitsOf 25 = .ok (.iaload, 1) := by decide +kernel
theorem d_Md_bitsOf_26 : decode b_Md_bitsOf 26 = .ok (.i2l, 1) := by decide +kernel
theorem d_Md_bitsOf_27 : decode b_Md_bitsOf 27 = .ok (.ldc2_w 163, 3) := by decide +kernel
theorem d_Md_bitsOf_30 : decode b_Md_bitsOf 30 = .ok (.land, 1) := by decide +kernel
theorem d_Md_bitsOf_31 : decode b_Md_bitsOf 31 = .ok (.lor, 1) := by decide +kernel
theorem d_Md_bitsOf_32 : decode b_Md_bitsOf 32 = .ok (.goto 17, 3) := by decide +kernel
theorem d_Md_bitsOf_35 : decode b_Md_bitsOf 35 = .ok (.aload_n 0, 1) := by decide +kernel
theorem d_Md_bitsOf_36 : decode b_Md_bitsOf 36 = .ok (.getfield 14, 3) := by decide +kernel
theorem d_Md_bitsOf_39 : decode b_Md_bitsOf 39 = .ok (.bipush 34, 2) := by decide +kernel
theorem d_Md_bitsOf_41 : decode b_Md_bitsOf 41 = .ok (.iload_n 1, 1) := by decide +kernel
theorem d_Md_bitsOf_42 : decode b_Md_bitsOf 42 = .ok (.iadd, 1) := by decide +kernel
theorem d_Md_bitsOf_43 : decode b_Md_bitsOf 43 = .ok (.iaload, 1) := by decide +kernel
theorem d_Md_bitsOf_44 : decode b_Md_bitsOf 44 = .ok (.i2l, 1) := by decide +kernel
theorem d_Md_bitsOf_45 : decode b_Md_bitsOf 45 = .ok (.ldc2_w 163, 3) := by decide +kernel
theorem d_Md_bitsOf_48 : decode b_Md_bitsOf 48 = .ok (.land, 1) := by decide +kernel
theorem d_Md_bitsOf_49 : decode b_Md_bitsOf 49 = .ok (.lreturn, 1) := by decide +kernel
theorem d_Md_digits_0 : decode b_Md_digits 0 = .ok (.iload_n 0, 1) := by decide +kernel
theorem d_Md_digits_1 : decode b_Md_digits 1 = .ok (.ifCond .eq 8, 3) := by decide +kernel
theorem d_Md_digits_4 : decode b_Md_digits 4 = .ok (.bipush 52, 2) := by decide +kernel
theorem d_Md_digits_6 : decode b_Md_digits 6 = .ok (.goto 5, 3) := by decide +kernel
theorem d_Md_digits_9 : decode b_Md_digits 9 = .ok (.bipush 23, 2) := by decide +kernel
theorem d_Md_digits_11 : decode b_Md_digits 11 = .ok (.ireturn, 1) := by decide +kernel
theorem d_Md_most_0 : decode b_Md_most 0 = .ok (.iload_n 0, 1) := by decide +kernel
theorem d_Md_most_1 : decode b_Md_most 1 = .ok (.ifCond .eq 9, 3) := by decide +kernel
theorem d_Md_most_4 : decode b_Md_most 4 = .ok (.sipush 2047, 3) := by decide +kernel
theorem d_Md_most_7 : decode b_Md_most 7 = .ok (.goto 6, 3) := by decide +kernel
theorem d_Md_most_10 : decode b_Md_most 10 = .ok (.sipush 255, 3) := by decide +kernel
theorem d_Md_most_13 : decode b_Md_most 13 = .ok (.ireturn, 1) := by decide +kernel
theorem d_Md_bias_0 : decode b_Md_bias 0 = .ok (.iload_n 0, 1) := by decide +kernel
theorem d_Md_bias_1 : decode b_Md_bias 1 = .ok (.ifCond .eq 9, 3) := by decide +kernel
theorem d_Md_bias_4 : decode b_Md_bias 4 = .ok (.sipush 1023, 3) := by decide +kernel
theorem d_Md_bias_7 : decode b_Md_bias 7 = .ok (.goto 5, 3) := by decide +kernel
theorem d_Md_bias_10 : decode b_Md_bias 10 = .ok (.bipush 127, 2) := by decide +kernel
theorem d_Md_bias_12 : decode b_Md_bias 12 = .ok (.ireturn, 1) := by decide +kernel
theorem d_Md_take_0 : decode b_Md_take 0 = .ok (.iload_n 3, 1) := by decide +kernel
theorem d_Md_take_1 : decode b_Md_take 1 = .ok (.invokestatic 190, 3) := by decide +kernel
theorem d_Md_take_4 : decode b_Md_take 4 = .ok (.istore 4, 2) := by decide +kernel
theorem d_Md_take_6 : decode b_Md_take 6 = .ok (.lload_n 1, 1) := by decide +kernel
theorem d_Md_take_7 : decode b_Md_take 7 = .ok (.iload 4, 2) := by decide +kernel
theorem d_Md_take_9 : decode b_Md_take 9 = .ok (.lushr, 1) := by decide +kernel
theorem d_Md_take_10 : decode b_Md_take 10 = .ok (.l2i, 1) := by decide +kernel
theorem d_Md_take_11 : decode b_Md_take 11 = .ok (.iload_n 3, 1) := by decide +kernel
theorem d_Md_take_12 : decode b_Md_take 12 = .ok (.invokestatic 194, 3) := by decide +kernel
theorem d_Md_take_15 : decode b_Md_take 15 = .ok (.iand, 1) := by decide +kernel
theorem d_Md_take_16 : decode b_Md_take 16 = .ok (.istore 5, 2) := by decide +kernel
theorem d_Md_take_18 : decode b_Md_take 18 = .ok (.lload_n 1, 1) := by decide +kernel
theorem d_Md_take_19 : decode b_Md_take 19 = .ok (.lconst 1, 1) := by decide +kernel
theorem d_Md_take_20 : decode b_Md_take 20 = .ok (.iload 4, 2) := by decide +kernel
theorem d_Md_take_22 : decode b_Md_take 22 = .ok (.lshl, 1) := by decide +kernel
theorem d_Md_take_23 : decode b_Md_take 23 = .ok (.lconst 1, 1) := by decide +kernel
theorem d_Md_take_24 : decode b_Md_take 24 = .ok (.lsub, 1) := by decide +kernel
theorem d_Md_take_25 : decode b_Md_take 25 = .ok (.land, 1) := by decide +kernel
theorem d_Md_take_26 : decode b_Md_take 26 = .ok (.lstore 6, 2) := by decide +kernel
theorem d_Md_take_28 : decode b_Md_take 28 = .ok (.aload_n 0, 1) := by decide +kernel
theorem d_Md_take_29 : decode b_Md_take 29 = .ok (.lload_n 1, 1) := by decide +kernel
theorem d_Md_take_30 : decode b_Md_take 30 = .ok (.iload_n 3, 1) := by decide +kernel
theorem d_Md_take_31 : decode b_Md_take 31 = .ok (.ifCond .eq 8, 3) := by decide +kernel
theorem d_Md_take_34 : decode b_Md_take 34 = .ok (.bipush 63, 2) := by decide +kernel
theorem d_Md_take_36 : decode b_Md_take 36 = .ok (.goto 5, 3) := by decide +kernel
theorem d_Md_take_39 : decode b_Md_take 39 = .ok (.bipush 31, 2) := by decide +kernel
theorem d_Md_take_41 : decode b_Md_take 41 = .ok (.lushr, 1) := by decide +kernel
theorem d_Md_take_42 : decode b_Md_take 42 = .ok (.lconst 1, 1) := by decide +kernel
theorem d_Md_take_43 : decode b_Md_take 43 = .ok (.land, 1) := by decide +kernel
theorem d_Md_take_44 : decode b_Md_take 44 = .ok (.lconst 1, 1) := by decide +kernel
theorem d_Md_take_45 : decode b_Md_take 45 = .ok (.lcmp, 1) := by decide +kernel
theorem d_Md_take_46 : decode b_Md_take 46 = .ok (.ifCond .ne 7, 3) := by decide +kernel
theorem d_Md_take_49 : decode b_Md_take 49 = .ok (.iconst 1, 1) := by decide +kernel
theorem d_Md_take_50 : decode b_Md_take 50 = .ok (.goto 4, 3) := by decide +kernel
theorem d_Md_take_53 : decode b_Md_take 53 = .ok (.iconst 0, 1) := by decide +kernel
theorem d_Md_take_54 : decode b_Md_take 54 = .ok (.putfield 197, 3) := by decide +kernel
theorem d_Md_take_57 : decode b_Md_take 57 = .ok (.aload_n 0, 1) := by decide +kernel
theorem d_Md_take_58 : decode b_Md_take 58 = .ok (.iload 5, 2) := by decide +kernel
theorem d_Md_take_60 : decode b_Md_take 60 = .ok (.ifCond .ne 8, 3) := by decide +kernel
theorem d_Md_take_63 : decode b_Md_take 63 = .ok (.lload 6, 2) := by decide +kernel
theorem d_Md_take_65 : decode b_Md_take 65 = .ok (.goto 10, 3) := by decide +kernel
theorem d_Md_take_68 : decode b_Md_take 68 = .ok (.lload 6, 2) := by decide +kernel
theorem d_Md_take_70 : decode b_Md_take 70 = .ok (.lconst 1, 1) := by decide +kernel
theorem d_Md_take_71 : decode b_Md_take 71 = .ok (.iload 4, 2) := by decide +kernel
theorem d_Md_take_73 : decode b_Md_take 73 = .ok (.lshl, 1) := by decide +kernel
theorem d_Md_take_74 : decode b_Md_take 74 = .ok (.lor, 1) := by decide +kernel
theorem d_Md_take_75 : decode b_Md_take 75 = .ok (.putfield 200, 3) := by decide +kernel
theorem d_Md_take_78 : decode b_Md_take 78 = .ok (.aload_n 0, 1) := by decide +kernel
theorem d_Md_take_79 : decode b_Md_take 79 = .ok (.iload 5, 2) := by decide +kernel
theorem d_Md_take_81 : decode b_Md_take 81 = .ok (.ifCond .ne 7, 3) := by decide +kernel
theorem d_Md_take_84 : decode b_Md_take 84 = .ok (.iconst 1, 1) := by decide +kernel
theorem d_Md_take_85 : decode b_Md_take 85 = .ok (.goto 5, 3) := by decide +kernel
theorem d_Md_take_88 : decode b_Md_take 88 = .ok (.iload 5, 2) := by decide +kernel
theorem d_Md_take_90 : decode b_Md_take 90 = .ok (.iload_n 3, 1) := by decide +kernel
theorem d_Md_take_91 : decode b_Md_take 91 = .ok (.invokestatic 204, 3) := by decide +kernel
theorem d_Md_take_94 : decode b_Md_take 94 = .ok (.isub, 1) := by decide +kernel
theorem d_Md_take_95 : decode b_Md_take 95 = .ok (.iload 4, 2) := by decide +kernel
theorem d_Md_take_97 : decode b_Md_take 97 = .ok (.isub, 1) := by decide +kernel
theorem d_Md_take_98 : decode b_Md_take 98 = .ok (.putfield 207, 3) := by decide +kernel
theorem d_Md_take_101 : decode b_Md_take 101 = .ok (.aload_n 0, 1) := by decide +kernel
theorem d_Md_take_102 : decode b_Md_take 102 = .ok (.iload 5, 2) := by decide +kernel
theorem d_Md_take_104 : decode b_Md_take 104 = .ok (.iload_n 3, 1) := by decide +kernel
theorem d_Md_take_105 : decode b_Md_take 105 = .ok (.invokestatic 194, 3) := by decide +kernel
theorem d_Md_take_108 : decode b_Md_take 108 = .ok (.if_icmp .ne 18, 3) := by decide +kernel
theorem d_Md_take_111 : decode b_Md_take 111 = .ok (.lload 6, 2) := by decide +kernel
theorem d_Md_take_113 : decode b_Md_take 113 = .ok (.lconst 0, 1) := by decide +kernel
theorem d_Md_take_114 : decode b_Md_take 114 = .ok (.lcmp, 1) := by decide +kernel
theorem d_Md_take_115 : decode b_Md_take 115 = .ok (.ifCond .ne 7, 3) := by decide +kernel
theorem d_Md_take_118 : decode b_Md_take 118 = .ok (.iconst 2, 1) := by decide +kernel
theorem d_Md_take_119 : decode b_Md_take 119 = .ok (.goto 21, 3) := by decide +kernel
theorem d_Md_take_122 : decode b_Md_take 122 = .ok (.iconst 3, 1) := by decide +kernel
theorem d_Md_take_123 : decode b_Md_take 123 = .ok (.goto 17, 3) := by decide +kernel
theorem d_Md_take_126 : decode b_Md_take 126 = .ok (.aload_n 0, 1) := by decide +kernel
theorem d_Md_take_127 : decode b_Md_take 127 = .ok (.getfield 200, 3) := by decide +kernel
theorem d_Md_take_130 : decode b_Md_take 130 = .ok (.lconst 0, 1) := by decide +kernel
theorem d_Md_take_131 : decode b_Md_take 131 = .ok (.lcmp, 1) := by decide +kernel
theorem d_Md_take_132 : decode b_Md_take 132 = .ok (.ifCond .ne 7, 3) := by decide +kernel
theorem d_Md_take_135 : decode b_Md_take 135 = .ok (.iconst 0, 1) := by decide +kernel
theorem d_Md_take_136 : decode b_Md_take 136 = .ok (.goto 4, 3) := by decide +kernel
theorem d_Md_take_139 : decode b_Md_take 139 = .ok (.iconst 1, 1) := by decide +kernel
theorem d_Md_take_140 : decode b_Md_take 140 = .ok (.putfield 210, 3) := by decide +kernel
theorem d_Md_take_143 : decode b_Md_take 143 = .ok (.aload_n 0, 1) := by decide +kernel
theorem d_Md_take_144 : decode b_Md_take 144 = .ok (.getfield 210, 3) := by decide +kernel
theorem d_Md_take_147 : decode b_Md_take 147 = .ok (.iconst 1, 1) := by decide +kernel
theorem d_Md_take_148 : decode b_Md_take 148 = .ok (.if_icmp .ne 38, 3) := by decide +kernel
theorem d_Md_take_151 : decode b_Md_take 151 = .ok (.aload_n 0, 1) := by decide +kernel
theorem d_Md_take_152 : decode b_Md_take 152 = .ok (.getfield 200, 3) := by decide +kernel
theorem d_Md_take_155 : decode b_Md_take 155 = .ok (.bipush 52, 2) := by decide +kernel
theorem d_Md_take_157 : decode b_Md_take 157 = .ok (.lshr, 1) := by decide +kernel
theorem d_Md_take_158 : decode b_Md_take 158 = .ok (.lconst 0, 1) := by decide +kernel
theorem d_Md_take_159 : decode b_Md_take 159 = .ok (.lcmp, 1) := by decide +kernel
theorem d_Md_take_160 : decode b_Md_take 160 = .ok (.ifCond .ne 26, 3) := by decide +kernel
theorem d_Md_take_163 : decode b_Md_take 163 = .ok (.aload_n 0, 1) := by decide +kernel
theorem d_Md_take_164 : decode b_Md_take 164 = .ok (.dup, 1) := by decide +kernel
theorem d_Md_take_165 : decode b_Md_take 165 = .ok (.getfield 200, 3) := by decide +kernel
theorem d_Md_take_168 : decode b_Md_take 168 = .ok (.iconst 1, 1) := by decide +kernel
theorem d_Md_take_169 : decode b_Md_take 169 = .ok (.lshl, 1) := by decide +kernel
theorem d_Md_take_170 : decode b_Md_take 170 = .ok (.putfield 200, 3) := by decide +kernel
theorem d_Md_take_173 : decode b_Md_take 173 = .ok (.aload_n 0, 1) := by decide +kernel
theorem d_Md_take_174 : decode b_Md_take 174 = .ok (.dup, 1) := by decide +kernel
theorem d_Md_take_175 : decode b_Md_take 175 = .ok (.getfield 207, 3) := by decide +kernel
theorem d_Md_take_178 : decode b_Md_take 178 = .ok (.iconst 1, 1) := by decide +kernel
theorem d_Md_take_179 : decode b_Md_take 179 = .ok (.isub, 1) := by decide +kernel
theorem d_Md_take_180 : decode b_Md_take 180 = .ok (.putfield 207, 3) := by decide +kernel
theorem d_Md_take_183 : decode b_Md_take 183 = .ok (.goto (-40), 3) := by decide +kernel
theorem d_Md_take_186 : decode b_Md_take 186 = .ok (.return_, 1) := by decide +kernel
theorem d_Md_aside_0 : decode b_Md_aside 0 = .ok (.aload_n 0, 1) := by decide +kernel
theorem d_Md_aside_1 : decode b_Md_aside 1 = .ok (.aload_n 0, 1) := by decide +kernel
theorem d_Md_aside_2 : decode b_Md_aside 2 = .ok (.getfield 210, 3) := by decide +kernel
theorem d_Md_aside_5 : decode b_Md_aside 5 = .ok (.putfield 213, 3) := by decide +kernel
theorem d_Md_aside_8 : decode b_Md_aside 8 = .ok (.aload_n 0, 1) := by decide +kernel
theorem d_Md_aside_9 : decode b_Md_aside 9 = .ok (.aload_n 0, 1) := by decide +kernel
theorem d_Md_aside_10 : decode b_Md_aside 10 = .ok (.getfield 197, 3) := by decide +kernel
theorem d_Md_aside_13 : decode b_Md_aside 13 = .ok (.putfield 216, 3) := by decide +kernel
theorem d_Md_aside_16 : decode b_Md_aside 16 = .ok (.aload_n 0, 1) := by decide +kernel
theorem d_Md_aside_17 : decode b_Md_aside 17 = .ok (.aload_n 0, 1) := by decide +kernel
theorem d_Md_aside_18 : decode b_Md_aside 18 = .ok (.getfield 200, 3) := by decide +kernel
theorem d_Md_aside_21 : decode b_Md_aside 21 = .ok (.putfield 219, 3) := by decide +kernel
theorem d_Md_aside_24 : decode b_Md_aside 24 = .ok (.aload_n 0, 1) := by decide +kernel
theorem d_Md_aside_25 : decode b_Md_aside 25 = .ok (.aload_n 0, 1) := by decide +kernel
theorem d_Md_aside_26 : decode b_Md_aside 26 = .ok (.getfield 207, 3) := by decide +kernel
theorem d_Md_aside_29 : decode b_Md_aside 29 = .ok (.putfield 222, 3) := by decide +kernel
theorem d_Md_aside_32 : decode b_Md_aside 32 = .ok (.return_, 1) := by decide +kernel
theorem d_Md_order_0 : decode b_Md_order 0 = .ok (.iload 4, 2) := by decide +kernel
theorem d_Md_order_2 : decode b_Md_order 2 = .ok (.ifCond .eq 9, 3) := by decide +kernel
theorem d_Md_order_5 : decode b_Md_order 5 = .ok (.ldc2_w 293, 3) := by decide +kernel
theorem d_Md_order_8 : decode b_Md_order 8 = .ok (.goto 6, 3) := by decide +kernel
theorem d_Md_order_11 : decode b_Md_order 11 = .ok (.ldc2_w 295, 3) := by decide +kernel
theorem d_Md_order_14 : decode b_Md_order 14 = .ok (.lstore 5, 2) := by decide +kernel
theorem d_Md_order_16 : decode b_Md_order 16 = .ok (.lload_n 0, 1) := by decide +kernel
theorem d_Md_order_17 : decode b_Md_order 17 = .ok (.lload 5, 2) := by decide +kernel
theorem d_Md_order_19 : decode b_Md_order 19 = .ok (.land, 1) := by decide +kernel
theorem d_Md_order_20 : decode b_Md_order 20 = .ok (.lload_n 0, 1) := by decide +kernel
theorem d_Md_order_21 : decode b_Md_order 21 = .ok (.lcmp, 1) := by decide +kernel
theorem d_Md_order_22 : decode b_Md_order 22 = .ok (.ifCond .eq 11, 3) := by decide +kernel
theorem d_Md_order_25 : decode b_Md_order 25 = .ok (.lload_n 0, 1) := by decide +kernel
theorem d_Md_order_26 : decode b_Md_order 26 = .ok (.lload 5, 2) := by decide +kernel
theorem d_Md_order_28 : decode b_Md_order 28 = .ok (.land, 1) := by decide +kernel
theorem d_Md_order_29 : decode b_Md_order 29 = .ok (.lneg, 1) := by decide +kernel
theorem d_Md_order_30 : decode b_Md_order 30 = .ok (.goto 4, 3) := by decide +kernel
theorem d_Md_order_33 : decode b_Md_order 33 = .ok (.lload_n 0, 1) := by decide +kernel
theorem d_Md_order_34 : decode b_Md_order 34 = .ok (.lstore 7, 2) := by decide +kernel
theorem d_Md_order_36 : decode b_Md_order 36 = .ok (.lload_n 2, 1) := by decide +kernel
theorem d_Md_order_37 : decode b_Md_order 37 = .ok (.lload 5, 2) := by decide +kernel
theorem d_Md_order_39 : decode b_Md_order 39 = .ok (.land, 1) := by decide +kernel
theorem d_Md_order_40 : decode b_Md_order 40 = .ok (.lload_n 2, 1) := by decide +kernel
theorem d_Md_order_41 : decode b_Md_order 41 = .ok (.lcmp, 1) := by decide +kernel
theorem d_Md_order_42 : decode b_Md_order 42 = .ok (.ifCond .eq 11, 3) := by decide +kernel
theorem d_Md_order_45 : decode b_Md_order 45 = .ok (.lload_n 2, 1) := by decide +kernel
theorem d_Md_order_46 : decode b_Md_order 46 = .ok (.lload 5, 2) := by decide +kernel
theorem d_Md_order_48 : decode b_Md_order 48 = .ok (.land, 1) := by decide +kernel
theorem d_Md_order_49 : decode b_Md_order 49 = .ok (.lneg, 1) := by decide +kernel
theorem d_Md_order_50 : decode b_Md_order 50 = .ok (.goto 4, 3) := by decide +kernel
theorem d_Md_order_53 : decode b_Md_order 53 = .ok (.lload_n 2, 1) := by decide +kernel
theorem d_Md_order_54 : decode b_Md_order 54 = .ok (.lstore 9, 2) := by decide +kernel
theorem d_Md_order_56 : decode b_Md_order 56 = .ok (.lload 7, 2) := by decide +kernel
theorem d_Md_order_58 : decode b_Md_order 58 = .ok (.lload 9, 2) := by decide +kernel
theorem d_Md_order_60 : decode b_Md_order 60 = .ok (.lcmp, 1) := by decide +kernel
theorem d_Md_order_61 : decode b_Md_order 61 = .ok (.ifCond .ge 7, 3) := by decide +kernel
theorem d_Md_order_64 : decode b_Md_order 64 = .ok (.iconst (-1), 1) := by decide +kernel
theorem d_Md_order_65 : decode b_Md_order 65 = .ok (.goto 16, 3) := by decide +kernel
theorem d_Md_order_68 : decode b_Md_order 68 = .ok (.lload 7, 2) := by decide +kernel
theorem d_Md_order_70 : decode b_Md_order 70 = .ok (.lload 9, 2) := by decide +kernel
theorem d_Md_order_72 : decode b_Md_order 72 = .ok (.lcmp, 1) := by decide +kernel
theorem d_Md_order_73 : decode b_Md_order 73 = .ok (.ifCond .le 7, 3) := by decide +kernel
theorem d_Md_order_76 : decode b_Md_order 76 = .ok (.iconst 1, 1) := by decide +kernel
theorem d_Md_order_77 : decode b_Md_order 77 = .ok (.goto 4, 3) := by decide +kernel
theorem d_Md_order_80 : decode b_Md_order 80 = .ok (.iconst 0, 1) := by decide +kernel
theorem d_Md_order_81 : decode b_Md_order 81 = .ok (.ireturn, 1) := by decide +kernel
theorem d_Md_compares_0 : decode b_Md_compares 0 = .ok (.aload_n 0, 1) := by decide +kernel
theorem d_Md_compares_1 : decode b_Md_compares 1 = .ok (.lload_n 2, 1) := by decide +kernel
theorem d_Md_compares_2 : decode b_Md_compares 2 = .ok (.iload 6, 2) := by decide +kernel
theorem d_Md_compares_4 : decode b_Md_compares 4 = .ok (.invokevirtual 282, 3) := by decide +kernel
theorem d_Md_compares_7 : decode b_Md_compares 7 = .ok (.aload_n 0, 1) := by decide +kernel
theorem d_Md_compares_8 : decode b_Md_compares 8 = .ok (.invokevirtual 286, 3) := by decide +kernel
theorem d_Md_compares_11 : decode b_Md_compares 11 = .ok (.aload_n 0, 1) := by decide +kernel
theorem d_Md_compares_12 : decode b_Md_compares 12 = .ok (.lload 4, 2) := by decide +kernel
theorem d_Md_compares_14 : decode b_Md_compares 14 = .ok (.iload 6, 2) := by decide +kernel
theorem d_Md_compares_16 : decode b_Md_compares 16 = .ok (.invokevirtual 282, 3) := by decide +kernel
theorem d_Md_compares_19 : decode b_Md_compares 19 = .ok (.aload_n 0, 1) := by decide +kernel
theorem d_Md_compares_20 : decode b_Md_compares 20 = .ok (.getfield 210, 3) := by decide +kernel
theorem d_Md_compares_23 : decode b_Md_compares 23 = .ok (.iconst 3, 1) := by decide +kernel
theorem d_Md_compares_24 : decode b_Md_compares 24 = .ok (.if_icmp .eq 11, 3) := by decide +kernel
theorem d_Md_compares_27 : decode b_Md_compares 27 = .ok (.aload_n 0, 1) := by decide +kernel
theorem d_Md_compares_28 : decode b_Md_compares 28 = .ok (.getfield 213, 3) := by decide +kernel
theorem d_Md_compares_31 : decode b_Md_compares 31 = .ok (.iconst 3, 1) := by decide +kernel
theorem d_Md_compares_32 : decode b_Md_compares 32 = .ok (.if_icmp .ne 7, 3) := by decide +kernel
theorem d_Md_compares_35 : decode b_Md_compares 35 = .ok (.iconst 1, 1) := by decide +kernel
theorem d_Md_compares_36 : decode b_Md_compares 36 = .ok (.goto 4, 3) := by decide +kernel
theorem d_Md_compares_39 : decode b_Md_compares 39 = .ok (.iconst 0, 1) := by decide +kernel
theorem d_Md_compares_40 : decode b_Md_compares 40 = .ok (.istore 7, 2) := by decide +kernel
theorem d_Md_compares_42 : decode b_Md_compares 42 = .ok (.iload 7, 2) := by decide +kernel
theorem d_Md_compares_44 : decode b_Md_compares 44 = .ok (.ifCond .eq 7, 3) := by decide +kernel
theorem d_Md_compares_47 : decode b_Md_compares 47 = .ok (.iconst 0, 1) := by decide +kernel
theorem d_Md_compares_48 : decode b_Md_compares 48 = .ok (.goto 11, 3) := by decide +kernel
theorem d_Md_compares_51 : decode b_Md_compares 51 = .ok (.lload_n 2, 1) := by decide +kernel
theorem d_Md_compares_52 : decode b_Md_compares 52 = .ok (.lload 4, 2) := by decide +kernel
theorem d_Md_compares_54 : decode b_Md_compares 54 = .ok (.iload 6, 2) := by decide +kernel
theorem d_Md_compares_56 : decode b_Md_compares 56 = .ok (.invokestatic 289, 3) := by decide +kernel
theorem d_Md_compares_59 : decode b_Md_compares 59 = .ok (.istore 8, 2) := by decide +kernel
theorem d_Md_compares_61 : decode b_Md_compares 61 = .ok (.iload 7, 2) := by decide +kernel
theorem d_Md_compares_63 : decode b_Md_compares 63 = .ok (.ifCond .eq 18, 3) := by decide +kernel
theorem d_Md_compares_66 : decode b_Md_compares 66 = .ok (.iload_n 1, 1) := by decide +kernel
theorem d_Md_compares_67 : decode b_Md_compares 67 = .ok (.iconst 1, 1) := by decide +kernel
theorem d_Md_compares_68 : decode b_Md_compares 68 = .ok (.iand, 1) := by decide +kernel
theorem d_Md_compares_69 : decode b_Md_compares 69 = .ok (.iconst 1, 1) := by decide +kernel
theorem d_Md_compares_70 : decode b_Md_compares 70 = .ok (.if_icmp .ne 7, 3) := by decide +kernel
theorem d_Md_compares_73 : decode b_Md_compares 73 = .ok (.iconst 1, 1) := by decide +kernel
theorem d_Md_compares_74 : decode b_Md_compares 74 = .ok (.goto 44, 3) := by decide +kernel
theorem d_Md_compares_77 : decode b_Md_compares 77 = .ok (.iconst 0, 1) := by decide +kernel
theorem d_Md_compares_78 : decode b_Md_compares 78 = .ok (.goto 40, 3) := by decide +kernel
theorem d_Md_compares_81 : decode b_Md_compares 81 = .ok (.iload 8, 2) := by decide +kernel
theorem d_Md_compares_83 : decode b_Md_compares 83 = .ok (.ifCond .ne 18, 3) := by decide +kernel
theorem d_Md_compares_86 : decode b_Md_compares 86 = .ok (.iload_n 1, 1) := by decide +kernel
theorem d_Md_compares_87 : decode b_Md_compares 87 = .ok (.iconst 2, 1) := by decide +kernel
theorem d_Md_compares_88 : decode b_Md_compares 88 = .ok (.iand, 1) := by decide +kernel
theorem d_Md_compares_89 : decode b_Md_compares 89 = .ok (.iconst 2, 1) := by decide +kernel
theorem d_Md_compares_90 : decode b_Md_compares 90 = .ok (.if_icmp .ne 7, 3) := by decide +kernel
theorem d_Md_compares_93 : decode b_Md_compares 93 = .ok (.iconst 1, 1) := by decide +kernel
theorem d_Md_compares_94 : decode b_Md_compares 94 = .ok (.goto 24, 3) := by decide +kernel
theorem d_Md_compares_97 : decode b_Md_compares 97 = .ok (.iconst 0, 1) := by decide +kernel
theorem d_Md_compares_98 : decode b_Md_compares 98 = .ok (.goto 20, 3) := by decide +kernel
theorem d_Md_compares_101 : decode b_Md_compares 101 = .ok (.iload 8, 2) := by decide +kernel
theorem d_Md_compares_103 : decode b_Md_compares 103 = .ok (.ifCond .ge 14, 3) := by decide +kernel
theorem d_Md_compares_106 : decode b_Md_compares 106 = .ok (.iload_n 1, 1) := by decide +kernel
theorem d_Md_compares_107 : decode b_Md_compares 107 = .ok (.iconst 4, 1) := by decide +kernel
theorem d_Md_compares_108 : decode b_Md_compares 108 = .ok (.iand, 1) := by decide +kernel
theorem d_Md_compares_109 : decode b_Md_compares 109 = .ok (.iconst 4, 1) := by decide +kernel
theorem d_Md_compares_110 : decode b_Md_compares 110 = .ok (.if_icmp .ne 7, 3) := by decide +kernel
theorem d_Md_compares_113 : decode b_Md_compares 113 = .ok (.iconst 1, 1) := by decide +kernel
theorem d_Md_compares_114 : decode b_Md_compares 114 = .ok (.goto 4, 3) := by decide +kernel
theorem d_Md_compares_117 : decode b_Md_compares 117 = .ok (.iconst 0, 1) := by decide +kernel
theorem d_Md_compares_118 : decode b_Md_compares 118 = .ok (.istore 9, 2) := by decide +kernel
theorem d_Md_compares_120 : decode b_Md_compares 120 = .ok (.aload_n 0, 1) := by decide +kernel
theorem d_Md_compares_121 : decode b_Md_compares 121 = .ok (.getfield 82, 3) := by decide +kernel
theorem d_Md_compares_124 : decode b_Md_compares 124 = .ok (.bipush 8, 2) := by decide +kernel
theorem d_Md_compares_126 : decode b_Md_compares 126 = .ok (.iushr, 1) := by decide +kernel
theorem d_Md_compares_127 : decode b_Md_compares 127 = .ok (.bipush 7, 2) := by decide +kernel
theorem d_Md_compares_129 : decode b_Md_compares 129 = .ok (.iand, 1) := by decide +kernel
theorem d_Md_compares_130 : decode b_Md_compares 130 = .ok (.istore 10, 2) := by decide +kernel
theorem d_Md_compares_132 : decode b_Md_compares 132 = .ok (.aload_n 0, 1) := by decide +kernel
theorem d_Md_compares_133 : decode b_Md_compares 133 = .ok (.getfield 14, 3) := by decide +kernel
theorem d_Md_compares_136 : decode b_Md_compares 136 = .ok (.bipush 66, 2) := by decide +kernel
theorem d_Md_compares_138 : decode b_Md_compares 138 = .ok (.iload 9, 2) := by decide +kernel
theorem d_Md_compares_140 : decode b_Md_compares 140 = .ok (.ifCond .eq 18, 3) := by decide +kernel
theorem d_Md_compares_143 : decode b_Md_compares 143 = .ok (.aload_n 0, 1) := by decide +kernel
theorem d_Md_compares_144 : decode b_Md_compares 144 = .ok (.getfield 14, 3) := by decide +kernel
theorem d_Md_compares_147 : decode b_Md_compares 147 = .ok (.bipush 66, 2) := by decide +kernel
theorem d_Md_compares_149 : decode b_Md_compares 149 = .ok (.iaload, 1) := by decide +kernel
theorem d_Md_compares_150 : decode b_Md_compares 150 = .ok (.iconst 1, 1) := by decide +kernel
theorem d_Md_compares_151 : decode b_Md_compares 151 = .ok (.iload 10, 2) := by decide +kernel
theorem d_Md_compares_153 : decode b_Md_compares 153 = .ok (.ishl, 1) := by decide +kernel
theorem d_Md_compares_154 : decode b_Md_compares 154 = .ok (.ior, 1) := by decide +kernel
theorem d_Md_compares_155 : decode b_Md_compares 155 = .ok (.goto 17, 3) := by decide +kernel
theorem d_Md_compares_158 : decode b_Md_compares 158 = .ok (.aload_n 0, 1) := by decide +kernel
theorem d_Md_compares_159 : decode b_Md_compares 159 = .ok (.getfield 14, 3) := by decide +kernel
theorem d_Md_compares_162 : decode b_Md_compares 162 = .ok (.bipush 66, 2) := by decide +kernel
theorem d_Md_compares_164 : decode b_Md_compares 164 = .ok (.iaload, 1) := by decide +kernel
theorem d_Md_compares_165 : decode b_Md_compares 165 = .ok (.iconst 1, 1) := by decide +kernel
theorem d_Md_compares_166 : decode b_Md_compares 166 = .ok (.iload 10, 2) := by decide +kernel
theorem d_Md_compares_168 : decode b_Md_compares 168 = .ok (.ishl, 1) := by decide +kernel
theorem d_Md_compares_169 : decode b_Md_compares 169 = .ok (.iconst (-1), 1) := by decide +kernel
theorem d_Md_compares_170 : decode b_Md_compares 170 = .ok (.ixor, 1) := by decide +kernel
theorem d_Md_compares_171 : decode b_Md_compares 171 = .ok (.iand, 1) := by decide +kernel
theorem d_Md_compares_172 : decode b_Md_compares 172 = .ok (.iastore, 1) := by decide +kernel
theorem d_Md_compares_173 : decode b_Md_compares 173 = .ok (.return_, 1) := by decide +kernel
theorem d_Md_noNumber_0 : decode b_Md_noNumber 0 = .ok (.iload_n 0, 1) := by decide +kernel
theorem d_Md_noNumber_1 : decode b_Md_noNumber 1 = .ok (.ifCond .eq 9, 3) := by decide +kernel
theorem d_Md_noNumber_4 : decode b_Md_noNumber 4 = .ok (.ldc2_w 225, 3) := by decide +kernel
theorem d_Md_noNumber_7 : decode b_Md_noNumber 7 = .ok (.goto 6, 3) := by decide +kernel
theorem d_Md_noNumber_10 : decode b_Md_noNumber 10 = .ok (.ldc2_w 227, 3) := by decide +kernel
theorem d_Md_noNumber_13 : decode b_Md_noNumber 13 = .ok (.lreturn, 1) := by decide +kernel
theorem d_Md_signed_0 : decode b_Md_signed 0 = .ok (.iload_n 0, 1) := by decide +kernel
theorem d_Md_signed_1 : decode b_Md_signed 1 = .ok (.ifCond .eq 21, 3) := by decide +kernel
theorem d_Md_signed_4 : decode b_Md_signed 4 = .ok (.lload_n 2, 1) := by decide +kernel
theorem d_Md_signed_5 : decode b_Md_signed 5 = .ok (.lconst 1, 1) := by decide +kernel
theorem d_Md_signed_6 : decode b_Md_signed 6 = .ok (.iload_n 1, 1) := by decide +kernel
theorem d_Md_signed_7 : decode b_Md_signed 7 = .ok (.ifCond .eq 8, 3) := by decide +kernel
theorem d_Md_signed_10 : decode b_Md_signed 10 = .ok (.bipush 63, 2) := by decide +kernel
theorem d_Md_signed_12 : decode b_Md_signed 12 = .ok (.goto 5, 3) := by decide +kernel
theorem d_Md_signed_15 : decode b_Md_signed 15 = .ok (.bipush 31, 2) := by decide +kernel
theorem d_Md_signed_17 : decode b_Md_signed 17 = .ok (.lshl, 1) := by decide +kernel
theorem d_Md_signed_18 : decode b_Md_signed 18 = .ok (.lor, 1) := by decide +kernel
theorem d_Md_signed_19 : decode b_Md_signed 19 = .ok (.goto 4, 3) := by decide +kernel
theorem d_Md_signed_22 : decode b_Md_signed 22 = .ok (.lload_n 2, 1) := by decide +kernel
theorem d_Md_signed_23 : decode b_Md_signed 23 = .ok (.lreturn, 1) := by decide +kernel
theorem d_Md_endless_0 : decode b_Md_endless 0 = .ok (.iload_n 0, 1) := by decide +kernel
theorem d_Md_endless_1 : decode b_Md_endless 1 = .ok (.iload_n 1, 1) := by decide +kernel
theorem d_Md_endless_2 : decode b_Md_endless 2 = .ok (.iload_n 1, 1) := by decide +kernel
theorem d_Md_endless_3 : decode b_Md_endless 3 = .ok (.invokestatic 194, 3) := by decide +kernel
theorem d_Md_endless_6 : decode b_Md_endless 6 = .ok (.i2l, 1) := by decide +kernel
theorem d_Md_endless_7 : decode b_Md_endless 7 = .ok (.iload_n 1, 1) := by decide +kernel
theorem d_Md_endless_8 : decode b_Md_endless 8 = .ok (.invokestatic 190, 3) := by decide +kernel
theorem d_Md_endless_11 : decode b_Md_endless 11 = .ok (.lshl, 1) := by decide +kernel
theorem d_Md_endless_12 : decode b_Md_endless 12 = .ok (.invokestatic 229, 3) := by decide +kernel
theorem d_Md_endless_15 : decode b_Md_endless 15 = .ok (.lreturn, 1) := by decide +kernel
theorem d_Md_rounded_0 : decode b_Md_rounded 0 = .ok (.iload 5, 2) := by decide +kernel
theorem d_Md_rounded_2 : decode b_Md_rounded 2 = .ok (.invokestatic 190, 3) := by decide +kernel
theorem d_Md_rounded_5 : decode b_Md_rounded 5 = .ok (.istore 6, 2) := by decide +kernel
theorem d_Md_rounded_7 : decode b_Md_rounded 7 = .ok (.lload_n 1, 1) := by decide +kernel
theorem d_Md_rounded_8 : decode b_Md_rounded 8 = .ok (.lstore 7, 2) := by decide +kernel
theorem d_Md_rounded_10 : decode b_Md_rounded 10 = .ok (.iload_n 3, 1) := by decide +kernel
theorem d_Md_rounded_11 : decode b_Md_rounded 11 = .ok (.istore 9, 2) := by decide +kernel
theorem d_Md_rounded_13 : decode b_Md_rounded 13 = .ok (.iload 4, 2) := by decide +kernel
theorem d_Md_rounded_15 : decode b_Md_rounded 15 = .ok (.istore 10, 2) := by decide +kernel
theorem d_Md_rounded_17 : decode b_Md_rounded 17 = .ok (.lload 7, 2) := by decide +kernel
theorem d_Md_rounded_19 : decode b_Md_rounded 19 = .ok (.bipush 62, 2) := by decide +kernel
theorem d_Md_rounded_21 : decode b_Md_rounded 21 = .ok (.lshr, 1) := by decide +kernel
theorem d_Md_rounded_22 : decode b_Md_rounded 22 = .ok (.lconst 0, 1) := by decide +kernel
theorem d_Md_rounded_23 : decode b_Md_rounded 23 = .ok (.lcmp, 1) := by decide +kernel
theorem d_Md_rounded_24 : decode b_Md_rounded 24 = .ok (.ifCond .ne 15, 3) := by decide +kernel
theorem d_Md_rounded_27 : decode b_Md_rounded 27 = .ok (.lload 7, 2) := by decide +kernel
theorem d_Md_rounded_29 : decode b_Md_rounded 29 = .ok (.iconst 1, 1) := by decide +kernel
theorem d_Md_rounded_30 : decode b_Md_rounded 30 = .ok (.lshl, 1) := by decide +kernel
theorem d_Md_rounded_31 : decode b_Md_rounded 31 = .ok (.lstore 7, 2) := by decide +kernel
theorem d_Md_rounded_33 : decode b_Md_rounded 33 = .ok (.iinc 9 (-1), 3) := by decide +kernel
theorem d_Md_rounded_36 : decode b_Md_rounded 36 = .ok (.goto (-19), 3) := by decide +kernel
theorem d_Md_rounded_39 : decode b_Md_rounded 39 = .ok (.iconst 1, 1) := by decide +kernel
theorem d_Md_rounded_40 : decode b_Md_rounded 40 = .ok (.iload 5, 2) := by decide +kernel
theorem d_Md_rounded_42 : decode b_Md_rounded 42 = .ok (.invokestatic 204, 3) := by decide +kernel
theorem d_Md_rounded_45 : decode b_Md_rounded 45 = .ok (.isub, 1) := by decide +kernel
theorem d_Md_rounded_46 : decode b_Md_rounded 46 = .ok (.iload 6, 2) := by decide +kernel
theorem d_Md_rounded_48 : decode b_Md_rounded 48 = .ok (.isub, 1) := by decide +kernel
theorem d_Md_rounded_49 : decode b_Md_rounded 49 = .ok (.istore 11, 2) := by decide +kernel
theorem d_Md_rounded_51 : decode b_Md_rounded 51 = .ok (.bipush 62, 2) := by decide +kernel
theorem d_Md_rounded_53 : decode b_Md_rounded 53 = .ok (.iload 6, 2) := by decide +kernel
theorem d_Md_rounded_55 : decode b_Md_rounded 55 = .ok (.isub, 1) := by decide +kernel
theorem d_Md_rounded_56 : decode b_Md_rounded 56 = .ok (.istore 12, 2) := by decide +kernel
theorem d_Md_rounded_58 : decode b_Md_rounded 58 = .ok (.iload 9, 2) := by decide +kernel
theorem d_Md_rounded_60 : decode b_Md_rounded 60 = .ok (.iload 12, 2) := by decide +kernel
theorem d_Md_rounded_62 : decode b_Md_rounded 62 = .ok (.iadd, 1) := by decide +kernel
theorem d_Md_rounded_63 : decode b_Md_rounded 63 = .ok (.iload 11, 2) := by decide +kernel
theorem d_Md_rounded_65 : decode b_Md_rounded 65 = .ok (.if_icmp .ge 10, 3) := by decide +kernel
theorem d_Md_rounded_68 : decode b_Md_rounded 68 = .ok (.iload 11, 2) := by decide +kernel
theorem d_Md_rounded_70 : decode b_Md_rounded 70 = .ok (.iload 9, 2) := by decide +kernel
theorem d_Md_rounded_72 : decode b_Md_rounded 72 = .ok (.isub, 1) := by decide +kernel
theorem d_Md_rounded_73 : decode b_Md_rounded 73 = .ok (.istore 12, 2) := by decide +kernel
theorem d_Md_rounded_75 : decode b_Md_rounded 75 = .ok (.iload 12, 2) := by decide +kernel
theorem d_Md_rounded_77 : decode b_Md_rounded 77 = .ok (.bipush 64, 2) := by decide +kernel
theorem d_Md_rounded_79 : decode b_Md_rounded 79 = .ok (.if_icmp .le 11, 3) := by decide +kernel
theorem d_Md_rounded_82 : decode b_Md_rounded 82 = .ok (.iload_n 0, 1) := by decide +kernel
theorem d_Md_rounded_83 : decode b_Md_rounded 83 = .ok (.iload 5, 2) := by decide +kernel
theorem d_Md_rounded_85 : decode b_Md_rounded 85 = .ok (.lconst 0, 1) := by decide +kernel
theorem d_Md_rounded_86 : decode b_Md_rounded 86 = .ok (.invokestatic 229, 3) := by decide +kernel
theorem d_Md_rounded_89 : decode b_Md_rounded 89 = .ok (.lreturn, 1) := by decide +kernel
theorem d_Md_rounded_90 : decode b_Md_rounded 90 = .ok (.iload 12, 2) := by decide +kernel
theorem d_Md_rounded_92 : decode b_Md_rounded 92 = .ok (.bipush 62, 2) := by decide +kernel
theorem d_Md_rounded_94 : decode b_Md_rounded 94 = .ok (.if_icmp .le 7, 3) := by decide +kernel
theorem d_Md_rounded_97 : decode b_Md_rounded 97 = .ok (.lconst 0, 1) := by decide +kernel
theorem d_Md_rounded_98 : decode b_Md_rounded 98 = .ok (.goto 8, 3) := by decide +kernel
theorem d_Md_rounded_101 : decode b_Md_rounded 101 = .ok (.lload 7, 2) := by decide +kernel
theorem d_Md_rounded_103 : decode b_Md_rounded 103 = .ok (.iload 12, 2) := by decide +kernel
theorem d_Md_rounded_105 : decode b_Md_rounded 105 = .ok (.lshr, 1) := by decide +kernel
theorem d_Md_rounded_106 : decode b_Md_rounded 106 = .ok (.lstore 13, 2) := by decide +kernel
theorem d_Md_rounded_108 : decode b_Md_rounded 108 = .ok (.iload 12, 2) := by decide +kernel
theorem d_Md_rounded_110 : decode b_Md_rounded 110 = .ok (.bipush 62, 2) := by decide +kernel
theorem d_Md_rounded_112 : decode b_Md_rounded 112 = .ok (.if_icmp .le 8, 3) := by decide +kernel
theorem d_Md_rounded_115 : decode b_Md_rounded 115 = .ok (.lload 7, 2) := by decide +kernel
theorem d_Md_rounded_117 : decode b_Md_rounded 117 = .ok (.goto 12, 3) := by decide +kernel
theorem d_Md_rounded_120 : decode b_Md_rounded 120 = .ok (.lload 7, 2) := by decide +kernel
theorem d_Md_rounded_122 : decode b_Md_rounded 122 = .ok (.lconst 1, 1) := by decide +kernel
theorem d_Md_rounded_123 : decode b_Md_rounded 123 = .ok (.iload 12, 2) := by decide +kernel
theorem d_Md_rounded_125 : decode b_Md_rounded 125 = .ok (.lshl, 1) := by decide +kernel
theorem d_Md_rounded_126 : decode b_Md_rounded 126 = .ok (.lconst 1, 1) := by decide +kernel
theorem d_Md_rounded_127 : decode b_Md_rounded 127 = .ok (.lsub, 1) := by decide +kernel
theorem d_Md_rounded_128 : decode b_Md_rounded 128 = .ok (.land, 1) := by decide +kernel
theorem d_Md_rounded_129 : decode b_Md_rounded 129 = .ok (.lstore 15, 2) := by decide +kernel
theorem d_Md_rounded_131 : decode b_Md_rounded 131 = .ok (.iload 12, 2) := by decide +kernel
theorem d_Md_rounded_133 : decode b_Md_rounded 133 = .ok (.bipush 63, 2) := by decide +kernel
theorem d_Md_rounded_135 : decode b_Md_rounded 135 = .ok (.if_icmp .le 7, 3) := by decide +kernel
theorem d_Md_rounded_138 : decode b_Md_rounded 138 = .ok (.lconst 0, 1) := by decide +kernel
theorem d_Md_rounded_139 : decode b_Md_rounded 139 = .ok (.goto 9, 3) := by decide +kernel
theorem d_Md_rounded_142 : decode b_Md_rounded 142 = .ok (.lconst 1, 1) := by decide +kernel
theorem d_Md_rounded_143 : decode b_Md_rounded 143 = .ok (.iload 12, 2) := by decide +kernel
theorem d_Md_rounded_145 : decode b_Md_rounded 145 = .ok (.iconst 1, 1) := by decide +kernel
theorem d_Md_rounded_146 : decode b_Md_rounded 146 = .ok (.isub, 1) := by decide +kernel
theorem d_Md_rounded_147 : decode b_Md_rounded 147 = .ok (.lshl, 1) := by decide +kernel
theorem d_Md_rounded_148 : decode b_Md_rounded 148 = .ok (.lstore 17, 2) := by decide +kernel
theorem d_Md_rounded_150 : decode b_Md_rounded 150 = .ok (.iload 12, 2) := by decide +kernel
theorem d_Md_rounded_152 : decode b_Md_rounded 152 = .ok (.bipush 63, 2) := by decide +kernel
theorem d_Md_rounded_154 : decode b_Md_rounded 154 = .ok (.if_icmp .gt 70, 3) := by decide +kernel
theorem d_Md_rounded_157 : decode b_Md_rounded 157 = .ok (.iload 12, 2) := by decide +kernel
theorem d_Md_rounded_159 : decode b_Md_rounded 159 = .ok (.bipush 63, 2) := by decide +kernel
theorem d_Md_rounded_161 : decode b_Md_rounded 161 = .ok (.if_icmp .ne 29, 3) := by decide +kernel
theorem d_Md_rounded_164 : decode b_Md_rounded 164 = .ok (.lload 15, 2) := by decide +kernel
theorem d_Md_rounded_166 : decode b_Md_rounded 166 = .ok (.ldc2_w 233, 3) := by decide +kernel
theorem d_Md_rounded_169 : decode b_Md_rounded 169 = .ok (.lcmp, 1) := by decide +kernel
theorem d_Md_rounded_170 : decode b_Md_rounded 170 = .ok (.ifCond .gt 50, 3) := by decide +kernel
theorem d_Md_rounded_173 : decode b_Md_rounded 173 = .ok (.lload 15, 2) := by decide +kernel
theorem d_Md_rounded_175 : decode b_Md_rounded 175 = .ok (.ldc2_w 233, 3) := by decide +kernel
theorem d_Md_rounded_178 : decode b_Md_rounded 178 = .ok (.lcmp, 1) := by decide +kernel
theorem d_Md_rounded_179 : decode b_Md_rounded 179 = .ok (.ifCond .ne 45, 3) := by decide +kernel
theorem d_Md_rounded_182 : decode b_Md_rounded 182 = .ok (.iload 10, 2) := by decide +kernel
theorem d_Md_rounded_184 : decode b_Md_rounded 184 = .ok (.ifCond .eq 40, 3) := by decide +kernel
theorem d_Md_rounded_187 : decode b_Md_rounded 187 = .ok (.goto 33, 3) := by decide +kernel
theorem d_Md_rounded_190 : decode b_Md_rounded 190 = .ok (.lload 15, 2) := by decide +kernel
theorem d_Md_rounded_192 : decode b_Md_rounded 192 = .ok (.lload 17, 2) := by decide +kernel
theorem d_Md_rounded_194 : decode b_Md_rounded 194 = .ok (.lcmp, 1) := by decide +kernel
theorem d_Md_rounded_195 : decode b_Md_rounded 195 = .ok (.ifCond .gt 25, 3) := by decide +kernel
theorem d_Md_rounded_198 : decode b_Md_rounded 198 = .ok (.lload 15, 2) := by decide +kernel
theorem d_Md_rounded_200 : decode b_Md_rounded 200 = .ok (.lload 17, 2) := by decide +kernel
theorem d_Md_rounded_202 : decode b_Md_rounded 202 = .ok (.lcmp, 1) := by decide +kernel
theorem d_Md_rounded_203 : decode b_Md_rounded 203 = .ok (.ifCond .ne 21, 3) := by decide +kernel
theorem d_Md_rounded_206 : decode b_Md_rounded 206 = .ok (.iload 10, 2) := by decide +kernel
theorem d_Md_rounded_208 : decode b_Md_rounded 208 = .ok (.ifCond .ne 12, 3) := by decide +kernel
theorem d_Md_rounded_211 : decode b_Md_rounded 211 = .ok (.lload 13, 2) := by decide +kernel
theorem d_Md_rounded_213 : decode b_Md_rounded 213 = .ok (.lconst 1, 1) := by decide +kernel
theorem d_Md_rounded_214 : decode b_Md_rounded 214 = .ok (.land, 1) := by decide +kernel
theorem d_Md_rounded_215 : decode b_Md_rounded 215 = .ok (.lconst 1, 1) := by decide +kernel
theorem d_Md_rounded_216 : decode b_Md_rounded 216 = .ok (.lcmp, 1) := by decide +kernel
theorem d_Md_rounded_217 : decode b_Md_rounded 217 = .ok (.ifCond .ne 7, 3) := by decide +kernel
theorem d_Md_rounded_220 : decode b_Md_rounded 220 = .ok (.iconst 1, 1) := by decide +kernel
theorem d_Md_rounded_221 : decode b_Md_rounded 221 = .ok (.goto 4, 3) := by decide +kernel
theorem d_Md_rounded_224 : decode b_Md_rounded 224 = .ok (.iconst 0, 1) := by decide +kernel
theorem d_Md_rounded_225 : decode b_Md_rounded 225 = .ok (.istore 19, 2) := by decide +kernel
theorem d_Md_rounded_227 : decode b_Md_rounded 227 = .ok (.iload 9, 2) := by decide +kernel
theorem d_Md_rounded_229 : decode b_Md_rounded 229 = .ok (.iload 12, 2) := by decide +kernel
theorem d_Md_rounded_231 : decode b_Md_rounded 231 = .ok (.iadd, 1) := by decide +kernel
theorem d_Md_rounded_232 : decode b_Md_rounded 232 = .ok (.istore 9, 2) := by decide +kernel
theorem d_Md_rounded_234 : decode b_Md_rounded 234 = .ok (.iload 19, 2) := by decide +kernel
theorem d_Md_rounded_236 : decode b_Md_rounded 236 = .ok (.ifCond .eq 9, 3) := by decide +kernel
theorem d_Md_rounded_239 : decode b_Md_rounded 239 = .ok (.lload 13, 2) := by decide +kernel
theorem d_Md_rounded_241 : decode b_Md_rounded 241 = .ok (.lconst 1, 1) := by decide +kernel
theorem d_Md_rounded_242 : decode b_Md_rounded 242 = .ok (.ladd, 1) := by decide +kernel
theorem d_Md_rounded_243 : decode b_Md_rounded 243 = .ok (.lstore 13, 2) := by decide +kernel
theorem d_Md_rounded_245 : decode b_Md_rounded 245 = .ok (.lload 13, 2) := by decide +kernel
theorem d_Md_rounded_247 : decode b_Md_rounded 247 = .ok (.iload 6, 2) := by decide +kernel
theorem d_Md_rounded_249 : decode b_Md_rounded 249 = .ok (.iconst 1, 1) := by decide +kernel
theorem d_Md_rounded_250 : decode b_Md_rounded 250 = .ok (.iadd, 1) := by decide +kernel
theorem d_Md_rounded_251 : decode b_Md_rounded 251 = .ok (.lshr, 1) := by decide +kernel
theorem d_Md_rounded_252 : decode b_Md_rounded 252 = .ok (.lconst 0, 1) := by decide +kernel
theorem d_Md_rounded_253 : decode b_Md_rounded 253 = .ok (.lcmp, 1) := by decide +kernel
theorem d_Md_rounded_254 : decode b_Md_rounded 254 = .ok (.ifCond .le 12, 3) := by decide +kernel
theorem d_Md_rounded_257 : decode b_Md_rounded 257 = .ok (.lload 13, 2) := by decide +kernel
theorem d_Md_rounded_259 : decode b_Md_rounded 259 = .ok (.iconst 1, 1) := by decide +kernel
theorem d_Md_rounded_260 : decode b_Md_rounded 260 = .ok (.lshr, 1) := by decide +kernel
theorem d_Md_rounded_261 : decode b_Md_rounded 261 = .ok (.lstore 13, 2) := by decide +kernel
theorem d_Md_rounded_263 : decode b_Md_rounded 263 = .ok (.iinc 9 1, 3) := by decide +kernel
theorem d_Md_rounded_266 : decode b_Md_rounded 266 = .ok (.lload 13, 2) := by decide +kernel
theorem d_Md_rounded_268 : decode b_Md_rounded 268 = .ok (.iload 6, 2) := by decide +kernel
theorem d_Md_rounded_270 : decode b_Md_rounded 270 = .ok (.lshr, 1) := by decide +kernel
theorem d_Md_rounded_271 : decode b_Md_rounded 271 = .ok (.lconst 0, 1) := by decide +kernel
theorem d_Md_rounded_272 : decode b_Md_rounded 272 = .ok (.lcmp, 1) := by decide +kernel
theorem d_Md_rounded_273 : decode b_Md_rounded 273 = .ok (.ifCond .ne 7, 3) := by decide +kernel
theorem d_Md_rounded_276 : decode b_Md_rounded 276 = .ok (.iconst 0, 1) := by decide +kernel
theorem d_Md_rounded_277 : decode b_Md_rounded 277 = .ok (.goto 14, 3) := by decide +kernel
theorem d_Md_rounded_280 : decode b_Md_rounded 280 = .ok (.iload 9, 2) := by decide +kernel
theorem d_Md_rounded_282 : decode b_Md_rounded 282 = .ok (.iload 6, 2) := by decide +kernel
theorem d_Md_rounded_284 : decode b_Md_rounded 284 = .ok (.iadd, 1) := by decide +kernel
theorem d_Md_rounded_285 : decode b_Md_rounded 285 = .ok (.iload 5, 2) := by decide +kernel
theorem d_Md_rounded_287 : decode b_Md_rounded 287 = .ok (.invokestatic 204, 3) := by decide +kernel
theorem d_Md_rounded_290 : decode b_Md_rounded 290 = .ok (.iadd, 1) := by decide +kernel
theorem d_Md_rounded_291 : decode b_Md_rounded 291 = .ok (.istore 20, 2) := by decide +kernel
theorem d_Md_rounded_293 : decode b_Md_rounded 293 = .ok (.iload 20, 2) := by decide +kernel
theorem d_Md_rounded_295 : decode b_Md_rounded 295 = .ok (.iload 5, 2) := by decide +kernel
theorem d_Md_rounded_297 : decode b_Md_rounded 297 = .ok (.invokestatic 194, 3) := by decide +kernel
theorem d_Md_rounded_300 : decode b_Md_rounded 300 = .ok (.if_icmp .lt 10, 3) := by decide +kernel
theorem d_Md_rounded_303 : decode b_Md_rounded 303 = .ok (.iload_n 0, 1) := by decide +kernel
theorem d_Md_rounded_304 : decode b_Md_rounded 304 = .ok (.iload 5, 2) := by decide +kernel
theorem d_Md_rounded_306 : decode b_Md_rounded 306 = .ok (.invokestatic 235, 3) := by decide +kernel
theorem d_Md_rounded_309 : decode b_Md_rounded 309 = .ok (.lreturn, 1) := by decide +kernel
theorem d_Md_rounded_310 : decode b_Md_rounded 310 = .ok (.iload_n 0, 1) := by decide +kernel
theorem d_Md_rounded_311 : decode b_Md_rounded 311 = .ok (.iload 5, 2) := by decide +kernel
theorem d_Md_rounded_313 : decode b_Md_rounded 313 = .ok (.iload 20, 2) := by decide +kernel
theorem d_Md_rounded_315 : decode b_Md_rounded 315 = .ok (.i2l, 1) := by decide +kernel
theorem d_Md_rounded_316 : decode b_Md_rounded 316 = .ok (.iload 6, 2) := by decide +kernel
theorem d_Md_rounded_318 : decode b_Md_rounded 318 = .ok (.lshl, 1) := by decide +kernel
theorem d_Md_rounded_319 : decode b_Md_rounded 319 = .ok (.lload 13, 2) := by decide +kernel
theorem d_Md_rounded_321 : decode b_Md_rounded 321 = .ok (.lconst 1, 1) := by decide +kernel
theorem d_Md_rounded_322 : decode b_Md_rounded 322 = .ok (.iload 6, 2) := by decide +kernel
theorem d_Md_rounded_324 : decode b_Md_rounded 324 = .ok (.lshl, 1) := by decide +kernel
theorem d_Md_rounded_325 : decode b_Md_rounded 325 = .ok (.lconst 1, 1) := by decide +kernel
theorem d_Md_rounded_326 : decode b_Md_rounded 326 = .ok (.lsub, 1) := by decide +kernel
theorem d_Md_rounded_327 : decode b_Md_rounded 327 = .ok (.land, 1) := by decide +kernel
theorem d_Md_rounded_328 : decode b_Md_rounded 328 = .ok (.lor, 1) := by decide +kernel
theorem d_Md_rounded_329 : decode b_Md_rounded 329 = .ok (.invokestatic 229, 3) := by decide +kernel
theorem d_Md_rounded_332 : decode b_Md_rounded 332 = .ok (.lreturn, 1) := by decide +kernel
theorem d_Md_secondBits_0 : decode b_Md_secondBits 0 = .ok (.aload_n 0, 1) := by decide +kernel
theorem d_Md_secondBits_1 : decode b_Md_secondBits 1 = .ok (.getfield 213, 3) := by decide +kernel
theorem d_Md_secondBits_4 : decode b_Md_secondBits 4 = .ok (.iconst 2, 1) := by decide +kernel
theorem d_Md_secondBits_5 : decode b_Md_secondBits 5 = .ok (.if_icmp .ne 14, 3) := by decide +kernel
theorem d_Md_secondBits_8 : decode b_Md_secondBits 8 = .ok (.aload_n 0, 1) := by decide +kernel
theorem d_Md_secondBits_9 : decode b_Md_secondBits 9 = .ok (.getfield 216, 3) := by decide +kernel
theorem d_Md_secondBits_12 : decode b_Md_secondBits 12 = .ok (.iload_n 1, 1) := by decide +kernel
theorem d_Md_secondBits_13 : decode b_Md_secondBits 13 = .ok (.invokestatic 235, 3) := by decide +kernel
theorem d_Md_secondBits_16 : decode b_Md_secondBits 16 = .ok (.goto 39, 3) := by decide +kernel
theorem d_Md_secondBits_19 : decode b_Md_secondBits 19 = .ok (.aload_n 0, 1) := by decide +kernel
theorem d_Md_secondBits_20 : decode b_Md_secondBits 20 = .ok (.getfield 213, 3) := by decide +kernel
theorem d_Md_secondBits_23 : decode b_Md_secondBits 23 = .ok (.ifCond .ne 15, 3) := by decide +kernel
theorem d_Md_secondBits_26 : decode b_Md_secondBits 26 = .ok (.aload_n 0, 1) := by decide +kernel
theorem d_Md_secondBits_27 : decode b_Md_secondBits 27 = .ok (.getfield 216, 3) := by decide +kernel
theorem d_Md_secondBits_30 : decode b_Md_secondBits 30 = .ok (.iload_n 1, 1) := by decide +kernel
theorem d_Md_secondBits_31 : decode b_Md_secondBits 31 = .ok (.lconst 0, 1) := by decide +kernel
theorem d_Md_secondBits_32 : decode b_Md_secondBits 32 = .ok (.invokestatic 229, 3) := by decide +kernel
theorem d_Md_secondBits_35 : decode b_Md_secondBits 35 = .ok (.goto 20, 3) := by decide +kernel
theorem d_Md_secondBits_38 : decode b_Md_secondBits 38 = .ok (.aload_n 0, 1) := by decide +kernel
theorem d_Md_secondBits_39 : decode b_Md_secondBits 39 = .ok (.getfield 216, 3) := by decide +kernel
theorem d_Md_secondBits_42 : decode b_Md_secondBits 42 = .ok (.aload_n 0, 1) := by decide +kernel
theorem d_Md_secondBits_43 : decode b_Md_secondBits 43 = .ok (.getfield 219, 3) := by decide +kernel
theorem d_Md_secondBits_46 : decode b_Md_secondBits 46 = .ok (.aload_n 0, 1) := by decide +kernel
theorem d_Md_secondBits_47 : decode b_Md_secondBits 47 = .ok (.getfield 222, 3) := by decide +kernel
theorem d_Md_secondBits_50 : decode b_Md_secondBits 50 = .ok (.iconst 0, 1) := by decide +kernel
theorem d_Md_secondBits_51 : decode b_Md_secondBits 51 = .ok (.iload_n 1, 1) := by decide +kernel
theorem d_Md_secondBits_52 : decode b_Md_secondBits 52 = .ok (.invokestatic 246, 3) := by decide +kernel
theorem d_Md_secondBits_55 : decode b_Md_secondBits 55 = .ok (.lreturn, 1) := by decide +kernel
theorem d_Md_sum_JZJ_0 : decode b_Md_sum_JZJ 0 = .ok (.aload_n 0, 1) := by decide +kernel
theorem d_Md_sum_JZJ_1 : decode b_Md_sum_JZJ 1 = .ok (.getfield 210, 3) := by decide +kernel
theorem d_Md_sum_JZJ_4 : decode b_Md_sum_JZJ 4 = .ok (.iconst 2, 1) := by decide +kernel
theorem d_Md_sum_JZJ_5 : decode b_Md_sum_JZJ 5 = .ok (.if_icmp .ne 31, 3) := by decide +kernel
theorem d_Md_sum_JZJ_8 : decode b_Md_sum_JZJ 8 = .ok (.aload_n 0, 1) := by decide +kernel
theorem d_Md_sum_JZJ_9 : decode b_Md_sum_JZJ 9 = .ok (.getfield 213, 3) := by decide +kernel
theorem d_Md_sum_JZJ_12 : decode b_Md_sum_JZJ 12 = .ok (.iconst 2, 1) := by decide +kernel
theorem d_Md_sum_JZJ_13 : decode b_Md_sum_JZJ 13 = .ok (.if_icmp .ne 23, 3) := by decide +kernel
theorem d_Md_sum_JZJ_16 : decode b_Md_sum_JZJ 16 = .ok (.aload_n 0, 1) := by decide +kernel
theorem d_Md_sum_JZJ_17 : decode b_Md_sum_JZJ 17 = .ok (.getfield 197, 3) := by decide +kernel
theorem d_Md_sum_JZJ_20 : decode b_Md_sum_JZJ 20 = .ok (.aload_n 0, 1) := by decide +kernel
theorem d_Md_sum_JZJ_21 : decode b_Md_sum_JZJ 21 = .ok (.getfield 216, 3) := by decide +kernel
theorem d_Md_sum_JZJ_24 : decode b_Md_sum_JZJ 24 = .ok (.if_icmp .ne 7, 3) := by decide +kernel
theorem d_Md_sum_JZJ_27 : decode b_Md_sum_JZJ 27 = .ok (.lload_n 1, 1) := by decide +kernel
theorem d_Md_sum_JZJ_28 : decode b_Md_sum_JZJ 28 = .ok (.goto 7, 3) := by decide +kernel
theorem d_Md_sum_JZJ_31 : decode b_Md_sum_JZJ 31 = .ok (.iload_n 3, 1) := by decide +kernel
theorem d_Md_sum_JZJ_32 : decode b_Md_sum_JZJ 32 = .ok (.invokestatic 297, 3) := by decide +kernel
theorem d_Md_sum_JZJ_35 : decode b_Md_sum_JZJ 35 = .ok (.lreturn, 1) := by decide +kernel
theorem d_Md_sum_JZJ_36 : decode b_Md_sum_JZJ 36 = .ok (.aload_n 0, 1) := by decide +kernel
theorem d_Md_sum_JZJ_37 : decode b_Md_sum_JZJ 37 = .ok (.getfield 210, 3) := by decide +kernel
theorem d_Md_sum_JZJ_40 : decode b_Md_sum_JZJ 40 = .ok (.iconst 2, 1) := by decide +kernel
theorem d_Md_sum_JZJ_41 : decode b_Md_sum_JZJ 41 = .ok (.if_icmp .ne 5, 3) := by decide +kernel
theorem d_Md_sum_JZJ_44 : decode b_Md_sum_JZJ 44 = .ok (.lload_n 1, 1) := by decide +kernel
theorem d_Md_sum_JZJ_45 : decode b_Md_sum_JZJ 45 = .ok (.lreturn, 1) := by decide +kernel
theorem d_Md_sum_JZJ_46 : decode b_Md_sum_JZJ 46 = .ok (.aload_n 0, 1) := by decide +kernel
theorem d_Md_sum_JZJ_47 : decode b_Md_sum_JZJ 47 = .ok (.getfield 213, 3) := by decide +kernel
theorem d_Md_sum_JZJ_50 : decode b_Md_sum_JZJ 50 = .ok (.iconst 2, 1) := by decide +kernel
theorem d_Md_sum_JZJ_51 : decode b_Md_sum_JZJ 51 = .ok (.if_icmp .ne 9, 3) := by decide +kernel
theorem d_Md_sum_JZJ_54 : decode b_Md_sum_JZJ 54 = .ok (.aload_n 0, 1) := by decide +kernel
theorem d_Md_sum_JZJ_55 : decode b_Md_sum_JZJ 55 = .ok (.iload_n 3, 1) := by decide +kernel
theorem d_Md_sum_JZJ_56 : decode b_Md_sum_JZJ 56 = .ok (.invokevirtual 315, 3) := by decide +kernel
theorem d_Md_sum_JZJ_59 : decode b_Md_sum_JZJ 59 = .ok (.lreturn, 1) := by decide +kernel
theorem d_Md_sum_JZJ_60 : decode b_Md_sum_JZJ 60 = .ok (.aload_n 0, 1) := by decide +kernel
theorem d_Md_sum_JZJ_61 : decode b_Md_sum_JZJ 61 = .ok (.getfield 210, 3) := by decide +kernel
theorem d_Md_sum_JZJ_64 : decode b_Md_sum_JZJ 64 = .ok (.ifCond .ne 35, 3) := by decide +kernel
theorem d_Md_sum_JZJ_67 : decode b_Md_sum_JZJ 67 = .ok (.aload_n 0, 1) := by decide +kernel
theorem d_Md_sum_JZJ_68 : decode b_Md_sum_JZJ 68 = .ok (.getfield 213, 3) := by decide +kernel
theorem d_Md_sum_JZJ_71 : decode b_Md_sum_JZJ 71 = .ok (.ifCond .ne 28, 3) := by decide +kernel
theorem d_Md_sum_JZJ_74 : decode b_Md_sum_JZJ 74 = .ok (.aload_n 0, 1) := by decide +kernel
theorem d_Md_sum_JZJ_75 : decode b_Md_sum_JZJ 75 = .ok (.getfield 197, 3) := by decide +kernel
theorem d_Md_sum_JZJ_78 : decode b_Md_sum_JZJ 78 = .ok (.ifCond .eq 14, 3) := by decide +kernel
theorem d_Md_sum_JZJ_81 : decode b_Md_sum_JZJ 81 = .ok (.aload_n 0, 1) := by decide +kernel
theorem d_Md_sum_JZJ_82 : decode b_Md_sum_JZJ 82 = .ok (.getfield 216, 3) := by decide +kernel
theorem d_Md_sum_JZJ_85 : decode b_Md_sum_JZJ 85 = .ok (.ifCond .eq 7, 3) := by decide +kernel
theorem d_Md_sum_JZJ_88 : decode b_Md_sum_JZJ 88 = .ok (.iconst 1, 1) := by decide +kernel
theorem d_Md_sum_JZJ_89 : decode b_Md_sum_JZJ 89 = .ok (.goto 4, 3) := by decide +kernel
theorem d_Md_sum_JZJ_92 : decode b_Md_sum_JZJ 92 = .ok (.iconst 0, 1) := by decide +kernel
theorem d_Md_sum_JZJ_93 : decode b_Md_sum_JZJ 93 = .ok (.iload_n 3, 1) := by decide +kernel
theorem d_Md_sum_JZJ_94 : decode b_Md_sum_JZJ 94 = .ok (.lconst 0, 1) := by decide +kernel
theorem d_Md_sum_JZJ_95 : decode b_Md_sum_JZJ 95 = .ok (.invokestatic 229, 3) := by decide +kernel
theorem d_Md_sum_JZJ_98 : decode b_Md_sum_JZJ 98 = .ok (.lreturn, 1) := by decide +kernel
theorem d_Md_sum_JZJ_99 : decode b_Md_sum_JZJ 99 = .ok (.aload_n 0, 1) := by decide +kernel
theorem d_Md_sum_JZJ_100 : decode b_Md_sum_JZJ 100 = .ok (.getfield 213, 3) := by decide +kernel
theorem d_Md_sum_JZJ_103 : decode b_Md_sum_JZJ 103 = .ok (.ifCond .ne 5, 3) := by decide +kernel
theorem d_Md_sum_JZJ_106 : decode b_Md_sum_JZJ 106 = .ok (.lload_n 1, 1) := by decide +kernel
theorem d_Md_sum_JZJ_107 : decode b_Md_sum_JZJ 107 = .ok (.lreturn, 1) := by decide +kernel
theorem d_Md_sum_JZJ_108 : decode b_Md_sum_JZJ 108 = .ok (.aload_n 0, 1) := by decide +kernel
theorem d_Md_sum_JZJ_109 : decode b_Md_sum_JZJ 109 = .ok (.getfield 210, 3) := by decide +kernel
theorem d_Md_sum_JZJ_112 : decode b_Md_sum_JZJ 112 = .ok (.ifCond .ne 9, 3) := by decide +kernel
theorem d_Md_sum_JZJ_115 : decode b_Md_sum_JZJ 115 = .ok (.aload_n 0, 1) := by decide +kernel
theorem d_Md_sum_JZJ_116 : decode b_Md_sum_JZJ 116 = .ok (.iload_n 3, 1) := by decide +kernel
theorem d_Md_sum_JZJ_117 : decode b_Md_sum_JZJ 117 = .ok (.invokevirtual 315, 3) := by decide +kernel
theorem d_Md_sum_JZJ_120 : decode b_Md_sum_JZJ 120 = .ok (.lreturn, 1) := by decide +kernel
theorem d_Md_sum_JZJ_121 : decode b_Md_sum_JZJ 121 = .ok (.aload_n 0, 1) := by decide +kernel
theorem d_Md_sum_JZJ_122 : decode b_Md_sum_JZJ 122 = .ok (.getfield 207, 3) := by decide +kernel
theorem d_Md_sum_JZJ_125 : decode b_Md_sum_JZJ 125 = .ok (.aload_n 0, 1) := by decide +kernel
theorem d_Md_sum_JZJ_126 : decode b_Md_sum_JZJ 126 = .ok (.getfield 222, 3) := by decide +kernel
theorem d_Md_sum_JZJ_129 : decode b_Md_sum_JZJ 129 = .ok (.if_icmp .lt 26, 3) := by decide +kernel
theorem d_Md_sum_JZJ_132 : decode b_Md_sum_JZJ 132 = .ok (.aload_n 0, 1) := by decide +kernel
theorem d_Md_sum_JZJ_133 : decode b_Md_sum_JZJ 133 = .ok (.getfield 207, 3) := by decide +kernel
theorem d_Md_sum_JZJ_136 : decode b_Md_sum_JZJ 136 = .ok (.aload_n 0, 1) := by decide +kernel
theorem d_Md_sum_JZJ_137 : decode b_Md_sum_JZJ 137 = .ok (.getfield 222, 3) := by decide +kernel
theorem d_Md_sum_JZJ_140 : decode b_Md_sum_JZJ 140 = .ok (.if_icmp .ne 19, 3) := by decide +kernel
theorem d_Md_sum_JZJ_143 : decode b_Md_sum_JZJ 143 = .ok (.aload_n 0, 1) := by decide +kernel
theorem d_Md_sum_JZJ_144 : decode b_Md_sum_JZJ 144 = .ok (.getfield 200, 3) := by decide +kernel
theorem d_Md_sum_JZJ_147 : decode b_Md_sum_JZJ 147 = .ok (.aload_n 0, 1) := by decide +kernel
theorem d_Md_sum_JZJ_148 : decode b_Md_sum_JZJ 148 = .ok (.getfield 219, 3) := by decide +kernel
theorem d_Md_sum_JZJ_151 : decode b_Md_sum_JZJ 151 = .ok (.lcmp, 1) := by decide +kernel
theorem d_Md_sum_JZJ_152 : decode b_Md_sum_JZJ 152 = .ok (.ifCond .ge 7, 3) := by decide +kernel
theorem d_Md_sum_JZJ_155 : decode b_Md_sum_JZJ 155 = .ok (.iconst 1, 1) := by decide +kernel
theorem d_Md_sum_JZJ_156 : decode b_Md_sum_JZJ 156 = .ok (.goto 4, 3) := by decide +kernel
theorem d_Md_sum_JZJ_159 : decode b_Md_sum_JZJ 159 = .ok (.iconst 0, 1) := by decide +kernel
theorem d_Md_sum_JZJ_160 : decode b_Md_sum_JZJ 160 = .ok (.istore 4, 2) := by decide +kernel
theorem d_Md_sum_JZJ_162 : decode b_Md_sum_JZJ 162 = .ok (.iload 4, 2) := by decide +kernel
theorem d_Md_sum_JZJ_164 : decode b_Md_sum_JZJ 164 = .ok (.ifCond .eq 10, 3) := by decide +kernel
theorem d_Md_sum_JZJ_167 : decode b_Md_sum_JZJ 167 = .ok (.aload_n 0, 1) := by decide +kernel
theorem d_Md_sum_JZJ_168 : decode b_Md_sum_JZJ 168 = .ok (.getfield 219, 3) := by decide +kernel
theorem d_Md_sum_JZJ_171 : decode b_Md_sum_JZJ 171 = .ok (.goto 7, 3) := by decide +kernel
theorem d_Md_sum_JZJ_174 : decode b_Md_sum_JZJ 174 = .ok (.aload_n 0, 1) := by decide +kernel
theorem d_Md_sum_JZJ_175 : decode b_Md_sum_JZJ 175 = .ok (.getfield 200, 3) := by decide +kernel
theorem d_Md_sum_JZJ_178 : decode b_Md_sum_JZJ 178 = .ok (.bipush 9, 2) := by decide +kernel
theorem d_Md_sum_JZJ_180 : decode b_Md_sum_JZJ 180 = .ok (.lshl, 1) := by decide +kernel
theorem d_Md_sum_JZJ_181 : decode b_Md_sum_JZJ 181 = .ok (.lstore 5, 2) := by decide +kernel
theorem d_Md_sum_JZJ_183 : decode b_Md_sum_JZJ 183 = .ok (.iload 4, 2) := by decide +kernel
theorem d_Md_sum_JZJ_185 : decode b_Md_sum_JZJ 185 = .ok (.ifCond .eq 10, 3) := by decide +kernel
theorem d_Md_sum_JZJ_188 : decode b_Md_sum_JZJ 188 = .ok (.aload_n 0, 1) := by decide +kernel
theorem d_Md_sum_JZJ_189 : decode b_Md_sum_JZJ 189 = .ok (.getfield 200, 3) := by decide +kernel
theorem d_Md_sum_JZJ_192 : decode b_Md_sum_JZJ 192 = .ok (.goto 7, 3) := by decide +kernel
theorem d_Md_sum_JZJ_195 : decode b_Md_sum_JZJ 195 = .ok (.aload_n 0, 1) := by decide +kernel
theorem d_Md_sum_JZJ_196 : decode b_Md_sum_JZJ 196 = .ok (.getfield 219, 3) := by decide +kernel
theorem d_Md_sum_JZJ_199 : decode b_Md_sum_JZJ 199 = .ok (.bipush 9, 2) := by decide +kernel
theorem d_Md_sum_JZJ_201 : decode b_Md_sum_JZJ 201 = .ok (.lshl, 1) := by decide +kernel
theorem d_Md_sum_JZJ_202 : decode b_Md_sum_JZJ 202 = .ok (.lstore 7, 2) := by decide +kernel
theorem d_Md_sum_JZJ_204 : decode b_Md_sum_JZJ 204 = .ok (.iload 4, 2) := by decide +kernel
theorem d_Md_sum_JZJ_206 : decode b_Md_sum_JZJ 206 = .ok (.ifCond .eq 10, 3) := by decide +kernel
theorem d_Md_sum_JZJ_209 : decode b_Md_sum_JZJ 209 = .ok (.aload_n 0, 1) := by decide +kernel
theorem d_Md_sum_JZJ_210 : decode b_Md_sum_JZJ 210 = .ok (.getfield 222, 3) := by decide +kernel
theorem d_Md_sum_JZJ_213 : decode b_Md_sum_JZJ 213 = .ok (.goto 7, 3) := by decide +kernel
theorem d_Md_sum_JZJ_216 : decode b_Md_sum_JZJ 216 = .ok (.aload_n 0, 1) := by decide +kernel
theorem d_Md_sum_JZJ_217 : decode b_Md_sum_JZJ 217 = .ok (.getfield 207, 3) := by decide +kernel
theorem d_Md_sum_JZJ_220 : decode b_Md_sum_JZJ 220 = .ok (.bipush 9, 2) := by decide +kernel
theorem d_Md_sum_JZJ_222 : decode b_Md_sum_JZJ 222 = .ok (.isub, 1) := by decide +kernel
theorem d_Md_sum_JZJ_223 : decode b_Md_sum_JZJ 223 = .ok (.istore 9, 2) := by decide +kernel
theorem d_Md_sum_JZJ_225 : decode b_Md_sum_JZJ 225 = .ok (.iload 4, 2) := by decide +kernel
theorem d_Md_sum_JZJ_227 : decode b_Md_sum_JZJ 227 = .ok (.ifCond .eq 15, 3) := by decide +kernel
theorem d_Md_sum_JZJ_230 : decode b_Md_sum_JZJ 230 = .ok (.aload_n 0, 1) := by decide +kernel
theorem d_Md_sum_JZJ_231 : decode b_Md_sum_JZJ 231 = .ok (.getfield 222, 3) := by decide +kernel
theorem d_Md_sum_JZJ_234 : decode b_Md_sum_JZJ 234 = .ok (.aload_n 0, 1) := by decide +kernel
theorem d_Md_sum_JZJ_235 : decode b_Md_sum_JZJ 235 = .ok (.getfield 207, 3) := by decide +kernel
theorem d_Md_sum_JZJ_238 : decode b_Md_sum_JZJ 238 = .ok (.isub, 1) := by decide +kernel
theorem d_Md_sum_JZJ_239 : decode b_Md_sum_JZJ 239 = .ok (.goto 12, 3) := by decide +kernel
theorem d_Md_sum_JZJ_242 : decode b_Md_sum_JZJ 242 = .ok (.aload_n 0, 1) := by decide +kernel
theorem d_Md_sum_JZJ_243 : decode b_Md_sum_JZJ 243 = .ok (.getfield 207, 3) := by decide +kernel
theorem d_Md_sum_JZJ_246 : decode b_Md_sum_JZJ 246 = .ok (.aload_n 0, 1) := by decide +kernel
theorem d_Md_sum_JZJ_247 : decode b_Md_sum_JZJ 247 = .ok (.getfield 222, 3) := by decide +kernel
theorem d_Md_sum_JZJ_250 : decode b_Md_sum_JZJ 250 = .ok (.isub, 1) := by decide +kernel
theorem d_Md_sum_JZJ_251 : decode b_Md_sum_JZJ 251 = .ok (.istore 10, 2) := by decide +kernel
theorem d_Md_sum_JZJ_253 : decode b_Md_sum_JZJ 253 = .ok (.iload 4, 2) := by decide +kernel
theorem d_Md_sum_JZJ_255 : decode b_Md_sum_JZJ 255 = .ok (.ifCond .eq 10, 3) := by decide +kernel
theorem d_Md_sum_JZJ_258 : decode b_Md_sum_JZJ 258 = .ok (.aload_n 0, 1) := by decide +kernel
theorem d_Md_sum_JZJ_259 : decode b_Md_sum_JZJ 259 = .ok (.getfield 216, 3) := by decide +kernel
theorem d_Md_sum_JZJ_262 : decode b_Md_sum_JZJ 262 = .ok (.goto 7, 3) := by decide +kernel
theorem d_Md_sum_JZJ_265 : decode b_Md_sum_JZJ 265 = .ok (.aload_n 0, 1) := by decide +kernel
theorem d_Md_sum_JZJ_266 : decode b_Md_sum_JZJ 266 = .ok (.getfield 197, 3) := by decide +kernel
theorem d_Md_sum_JZJ_269 : decode b_Md_sum_JZJ 269 = .ok (.istore 11, 2) := by decide +kernel
theorem d_Md_sum_JZJ_271 : decode b_Md_sum_JZJ 271 = .ok (.aload_n 0, 1) := by decide +kernel
theorem d_Md_sum_JZJ_272 : decode b_Md_sum_JZJ 272 = .ok (.getfield 197, 3) := by decide +kernel
theorem d_Md_sum_JZJ_275 : decode b_Md_sum_JZJ 275 = .ok (.aload_n 0, 1) := by decide +kernel
theorem d_Md_sum_JZJ_276 : decode b_Md_sum_JZJ 276 = .ok (.getfield 216, 3) := by decide +kernel
theorem d_Md_sum_JZJ_279 : decode b_Md_sum_JZJ 279 = .ok (.if_icmp .ne 7, 3) := by decide +kernel
theorem d_Md_sum_JZJ_282 : decode b_Md_sum_JZJ 282 = .ok (.iconst 1, 1) := by decide +kernel
theorem d_Md_sum_JZJ_283 : decode b_Md_sum_JZJ 283 = .ok (.goto 4, 3) := by decide +kernel
theorem d_Md_sum_JZJ_286 : decode b_Md_sum_JZJ 286 = .ok (.iconst 0, 1) := by decide +kernel
theorem d_Md_sum_JZJ_287 : decode b_Md_sum_JZJ 287 = .ok (.istore 12, 2) := by decide +kernel
theorem d_Md_sum_JZJ_289 : decode b_Md_sum_JZJ 289 = .ok (.iload 10, 2) := by decide +kernel
theorem d_Md_sum_JZJ_291 : decode b_Md_sum_JZJ 291 = .ok (.bipush 62, 2) := by decide +kernel
theorem d_Md_sum_JZJ_293 : decode b_Md_sum_JZJ 293 = .ok (.if_icmp .gt 17, 3) := by decide +kernel
theorem d_Md_sum_JZJ_296 : decode b_Md_sum_JZJ 296 = .ok (.lload 7, 2) := by decide +kernel
theorem d_Md_sum_JZJ_298 : decode b_Md_sum_JZJ 298 = .ok (.lconst 1, 1) := by decide +kernel
theorem d_Md_sum_JZJ_299 : decode b_Md_sum_JZJ 299 = .ok (.iload 10, 2) := by decide +kernel
theorem d_Md_sum_JZJ_301 : decode b_Md_sum_JZJ 301 = .ok (.lshl, 1) := by decide +kernel
theorem d_Md_sum_JZJ_302 : decode b_Md_sum_JZJ 302 = .ok (.lconst 1, 1) := by decide +kernel
theorem d_Md_sum_JZJ_303 : decode b_Md_sum_JZJ 303 = .ok (.lsub, 1) := by decide +kernel
theorem d_Md_sum_JZJ_304 : decode b_Md_sum_JZJ 304 = .ok (.land, 1) := by decide +kernel
theorem d_Md_sum_JZJ_305 : decode b_Md_sum_JZJ 305 = .ok (.lconst 0, 1) := by decide +kernel
theorem d_Md_sum_JZJ_306 : decode b_Md_sum_JZJ 306 = .ok (.lcmp, 1) := by decide +kernel
theorem d_Md_sum_JZJ_307 : decode b_Md_sum_JZJ 307 = .ok (.ifCond .eq 7, 3) := by decide +kernel
theorem d_Md_sum_JZJ_310 : decode b_Md_sum_JZJ 310 = .ok (.iconst 1, 1) := by decide +kernel
theorem d_Md_sum_JZJ_311 : decode b_Md_sum_JZJ 311 = .ok (.goto 4, 3) := by decide +kernel
theorem d_Md_sum_JZJ_314 : decode b_Md_sum_JZJ 314 = .ok (.iconst 0, 1) := by decide +kernel
theorem d_Md_sum_JZJ_315 : decode b_Md_sum_JZJ 315 = .ok (.istore 13, 2) := by decide +kernel
theorem d_Md_sum_JZJ_317 : decode b_Md_sum_JZJ 317 = .ok (.iload 10, 2) := by decide +kernel
theorem d_Md_sum_JZJ_319 : decode b_Md_sum_JZJ 319 = .ok (.bipush 62, 2) := by decide +kernel
theorem d_Md_sum_JZJ_321 : decode b_Md_sum_JZJ 321 = .ok (.if_icmp .le 7, 3) := by decide +kernel
theorem d_Md_sum_JZJ_324 : decode b_Md_sum_JZJ 324 = .ok (.lconst 0, 1) := by decide +kernel
theorem d_Md_sum_JZJ_325 : decode b_Md_sum_JZJ 325 = .ok (.goto 8, 3) := by decide +kernel
theorem d_Md_sum_JZJ_328 : decode b_Md_sum_JZJ 328 = .ok (.lload 7, 2) := by decide +kernel
theorem d_Md_sum_JZJ_330 : decode b_Md_sum_JZJ 330 = .ok (.iload 10, 2) := by decide +kernel
theorem d_Md_sum_JZJ_332 : decode b_Md_sum_JZJ 332 = .ok (.lshr, 1) := by decide +kernel
theorem d_Md_sum_JZJ_333 : decode b_Md_sum_JZJ 333 = .ok (.lstore 14, 2) := by decide +kernel
theorem d_Md_sum_JZJ_335 : decode b_Md_sum_JZJ 335 = .ok (.iload 12, 2) := by decide +kernel
theorem d_Md_sum_JZJ_337 : decode b_Md_sum_JZJ 337 = .ok (.ifCond .eq 11, 3) := by decide +kernel
theorem d_Md_sum_JZJ_340 : decode b_Md_sum_JZJ 340 = .ok (.lload 5, 2) := by decide +kernel
theorem d_Md_sum_JZJ_342 : decode b_Md_sum_JZJ 342 = .ok (.lload 14, 2) := by decide +kernel
theorem d_Md_sum_JZJ_344 : decode b_Md_sum_JZJ 344 = .ok (.ladd, 1) := by decide +kernel
theorem d_Md_sum_JZJ_345 : decode b_Md_sum_JZJ 345 = .ok (.goto 19, 3) := by decide +kernel
theorem d_Md_sum_JZJ_348 : decode b_Md_sum_JZJ 348 = .ok (.lload 5, 2) := by decide +kernel
theorem d_Md_sum_JZJ_350 : decode b_Md_sum_JZJ 350 = .ok (.lload 14, 2) := by decide +kernel
theorem d_Md_sum_JZJ_352 : decode b_Md_sum_JZJ 352 = .ok (.lsub, 1) := by decide +kernel
theorem d_Md_sum_JZJ_353 : decode b_Md_sum_JZJ 353 = .ok (.iload 13, 2) := by decide +kernel
theorem d_Md_sum_JZJ_355 : decode b_Md_sum_JZJ 355 = .ok (.ifCond .eq 7, 3) := by decide +kernel
theorem d_Md_sum_JZJ_358 : decode b_Md_sum_JZJ 358 = .ok (.lconst 1, 1) := by decide +kernel
theorem d_Md_sum_JZJ_359 : decode b_Md_sum_JZJ 359 = .ok (.goto 4, 3) := by decide +kernel
theorem d_Md_sum_JZJ_362 : decode b_Md_sum_JZJ 362 = .ok (.lconst 0, 1) := by decide +kernel
theorem d_Md_sum_JZJ_363 : decode b_Md_sum_JZJ 363 = .ok (.lsub, 1) := by decide +kernel
theorem d_Md_sum_JZJ_364 : decode b_Md_sum_JZJ 364 = .ok (.lstore 16, 2) := by decide +kernel
theorem d_Md_sum_JZJ_366 : decode b_Md_sum_JZJ 366 = .ok (.lload 16, 2) := by decide +kernel
theorem d_Md_sum_JZJ_368 : decode b_Md_sum_JZJ 368 = .ok (.lconst 0, 1) := by decide +kernel
theorem d_Md_sum_JZJ_369 : decode b_Md_sum_JZJ 369 = .ok (.lcmp, 1) := by decide +kernel
theorem d_Md_sum_JZJ_370 : decode b_Md_sum_JZJ 370 = .ok (.ifCond .ne 5, 3) := by decide +kernel
theorem d_Md_sum_JZJ_373 : decode b_Md_sum_JZJ 373 = .ok (.lconst 0, 1) := by decide +kernel
theorem d_Md_sum_JZJ_374 : decode b_Md_sum_JZJ 374 = .ok (.lreturn, 1) := by decide +kernel
theorem d_Md_sum_JZJ_375 : decode b_Md_sum_JZJ 375 = .ok (.lload 16, 2) := by decide +kernel
theorem d_Md_sum_JZJ_377 : decode b_Md_sum_JZJ 377 = .ok (.lconst 0, 1) := by decide +kernel
theorem d_Md_sum_JZJ_378 : decode b_Md_sum_JZJ 378 = .ok (.lcmp, 1) := by decide +kernel
theorem d_Md_sum_JZJ_379 : decode b_Md_sum_JZJ 379 = .ok (.ifCond .ge 39, 3) := by decide +kernel
theorem d_Md_sum_JZJ_382 : decode b_Md_sum_JZJ 382 = .ok (.iload 11, 2) := by decide +kernel
theorem d_Md_sum_JZJ_384 : decode b_Md_sum_JZJ 384 = .ok (.lload 16, 2) := by decide +kernel
theorem d_Md_sum_JZJ_386 : decode b_Md_sum_JZJ 386 = .ok (.iconst 1, 1) := by decide +kernel
theorem d_Md_sum_JZJ_387 : decode b_Md_sum_JZJ 387 = .ok (.lushr, 1) := by decide +kernel
theorem d_Md_sum_JZJ_388 : decode b_Md_sum_JZJ 388 = .ok (.iload 9, 2) := by decide +kernel
theorem d_Md_sum_JZJ_390 : decode b_Md_sum_JZJ 390 = .ok (.iconst 1, 1) := by decide +kernel
theorem d_Md_sum_JZJ_391 : decode b_Md_sum_JZJ 391 = .ok (.iadd, 1) := by decide +kernel
theorem d_Md_sum_JZJ_392 : decode b_Md_sum_JZJ 392 = .ok (.iload 13, 2) := by decide +kernel
theorem d_Md_sum_JZJ_394 : decode b_Md_sum_JZJ 394 = .ok (.ifCond .ne 12, 3) := by decide +kernel
theorem d_Md_sum_JZJ_397 : decode b_Md_sum_JZJ 397 = .ok (.lload 16, 2) := by decide +kernel
theorem d_Md_sum_JZJ_399 : decode b_Md_sum_JZJ 399 = .ok (.lconst 1, 1) := by decide +kernel
theorem d_Md_sum_JZJ_400 : decode b_Md_sum_JZJ 400 = .ok (.land, 1) := by decide +kernel
theorem d_Md_sum_JZJ_401 : decode b_Md_sum_JZJ 401 = .ok (.lconst 1, 1) := by decide +kernel
theorem d_Md_sum_JZJ_402 : decode b_Md_sum_JZJ 402 = .ok (.lcmp, 1) := by decide +kernel
theorem d_Md_sum_JZJ_403 : decode b_Md_sum_JZJ 403 = .ok (.ifCond .ne 7, 3) := by decide +kernel
theorem d_Md_sum_JZJ_406 : decode b_Md_sum_JZJ 406 = .ok (.iconst 1, 1) := by decide +kernel
theorem d_Md_sum_JZJ_407 : decode b_Md_sum_JZJ 407 = .ok (.goto 4, 3) := by decide +kernel
theorem d_Md_sum_JZJ_410 : decode b_Md_sum_JZJ 410 = .ok (.iconst 0, 1) := by decide +kernel
theorem d_Md_sum_JZJ_411 : decode b_Md_sum_JZJ 411 = .ok (.iload_n 3, 1) := by decide +kernel
theorem d_Md_sum_JZJ_412 : decode b_Md_sum_JZJ 412 = .ok (.invokestatic 246, 3) := by decide +kernel
theorem d_Md_sum_JZJ_415 : decode b_Md_sum_JZJ 415 = .ok (.goto 15, 3) := by decide +kernel
theorem d_Md_sum_JZJ_418 : decode b_Md_sum_JZJ 418 = .ok (.iload 11, 2) := by decide +kernel
theorem d_Md_sum_JZJ_420 : decode b_Md_sum_JZJ 420 = .ok (.lload 16, 2) := by decide +kernel
theorem d_Md_sum_JZJ_422 : decode b_Md_sum_JZJ 422 = .ok (.iload 9, 2) := by decide +kernel
theorem d_Md_sum_JZJ_424 : decode b_Md_sum_JZJ 424 = .ok (.iload 13, 2) := by decide +kernel
theorem d_Md_sum_JZJ_426 : decode b_Md_sum_JZJ 426 = .ok (.iload_n 3, 1) := by decide +kernel
theorem d_Md_sum_JZJ_427 : decode b_Md_sum_JZJ 427 = .ok (.invokestatic 246, 3) := by decide +kernel
theorem d_Md_sum_JZJ_430 : decode b_Md_sum_JZJ 430 = .ok (.lreturn, 1) := by decide +kernel
theorem d_Md_times_0 : decode b_Md_times 0 = .ok (.aload_n 0, 1) := by decide +kernel
theorem d_Md_times_1 : decode b_Md_times 1 = .ok (.getfield 197, 3) := by decide +kernel
theorem d_Md_times_4 : decode b_Md_times 4 = .ok (.aload_n 0, 1) := by decide +kernel
theorem d_Md_times_5 : decode b_Md_times 5 = .ok (.getfield 216, 3) := by decide +kernel
theorem d_Md_times_8 : decode b_Md_times 8 = .ok (.if_icmp .eq 7, 3) := by decide +kernel
theorem d_Md_times_11 : decode b_Md_times 11 = .ok (.iconst 1, 1) := by decide +kernel
theorem d_Md_times_12 : decode b_Md_times 12 = .ok (.goto 4, 3) := by decide +kernel
theorem d_Md_times_15 : decode b_Md_times 15 = .ok (.iconst 0, 1) := by decide +kernel
theorem d_Md_times_16 : decode b_Md_times 16 = .ok (.istore_n 2, 1) := by decide +kernel
theorem d_Md_times_17 : decode b_Md_times 17 = .ok (.aload_n 0, 1) := by decide +kernel
theorem d_Md_times_18 : decode b_Md_times 18 = .ok (.getfield 210, 3) := by decide +kernel
theorem d_Md_times_21 : decode b_Md_times 21 = .ok (.iconst 2, 1) := by decide +kernel
theorem d_Md_times_22 : decode b_Md_times 22 = .ok (.if_icmp .eq 11, 3) := by decide +kernel
theorem d_Md_times_25 : decode b_Md_times 25 = .ok (.aload_n 0, 1) := by decide +kernel
theorem d_Md_times_26 : decode b_Md_times 26 = .ok (.getfield 213, 3) := by decide +kernel
theorem d_Md_times_29 : decode b_Md_times 29 = .ok (.iconst 2, 1) := by decide +kernel
theorem d_Md_times_30 : decode b_Md_times 30 = .ok (.if_icmp .ne 30, 3) := by decide +kernel
theorem d_Md_times_33 : decode b_Md_times 33 = .ok (.aload_n 0, 1) := by decide +kernel
theorem d_Md_times_34 : decode b_Md_times 34 = .ok (.getfield 210, 3) := by decide +kernel
theorem d_Md_times_37 : decode b_Md_times 37 = .ok (.ifCond .eq 10, 3) := by decide +kernel
theorem d_Md_times_40 : decode b_Md_times 40 = .ok (.aload_n 0, 1) := by decide +kernel
theorem d_Md_times_41 : decode b_Md_times 41 = .ok (.getfield 213, 3) := by decide +kernel
theorem d_Md_times_44 : decode b_Md_times 44 = .ok (.ifCond .ne 10, 3) := by decide +kernel
theorem d_Md_times_47 : decode b_Md_times 47 = .ok (.iload_n 1, 1) := by decide +kernel
theorem d_Md_times_48 : decode b_Md_times 48 = .ok (.invokestatic 297, 3) := by decide +kernel
theorem d_Md_times_51 : decode b_Md_times 51 = .ok (.goto 8, 3) := by decide +kernel
theorem d_Md_times_54 : decode b_Md_times 54 = .ok (.iload_n 2, 1) := by decide +kernel
theorem d_Md_times_55 : decode b_Md_times 55 = .ok (.iload_n 1, 1) := by decide +kernel
theorem d_Md_times_56 : decode b_Md_times 56 = .ok (.invokestatic 235, 3) := by decide +kernel
theorem d_Md_times_59 : decode b_Md_times 59 = .ok (.lreturn, 1) := by decide +kernel
theorem d_Md_times_60 : decode b_Md_times 60 = .ok (.aload_n 0, 1) := by decide +kernel
theorem d_Md_times_61 : decode b_Md_times 61 = .ok (.getfield 210, 3) := by decide +kernel
