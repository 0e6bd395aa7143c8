theorem d_Fr_cut_0 : decode b_Fr_cut 0 = .ok (.iload_n 2, 1) := by decide +kernel
theorem d_Fr_cut_1 : decode b_Fr_cut 1 = .ok (.ifCond .ne 5, 3) := by decide +kernel
theorem d_Fr_cut_4 : decode b_Fr_cut 4 = .ok (.lload_n 0, 1) := by decide +kernel
theorem d_Fr_cut_5 : decode b_Fr_cut 5 = .ok (.lreturn, 1) := by decide +kernel
theorem d_Fr_cut_6 : decode b_Fr_cut 6 = .ok (.iload_n 2, 1) := by decide +kernel
theorem d_Fr_cut_7 : decode b_Fr_cut 7 = .ok (.bipush 62, 2) := by decide +kernel
theorem d_Fr_cut_9 : decode b_Fr_cut 9 = .ok (.if_icmp .le 5, 3) := by decide +kernel
theorem d_Fr_cut_12 : decode b_Fr_cut 12 = .ok (.lconst 1, 1) := by decide +kernel
theorem d_Fr_cut_13 : decode b_Fr_cut 13 = .ok (.lreturn, 1) := by decide +kernel
theorem d_Fr_cut_14 : decode b_Fr_cut 14 = .ok (.lload_n 0, 1) := by decide +kernel
theorem d_Fr_cut_15 : decode b_Fr_cut 15 = .ok (.iload_n 2, 1) := by decide +kernel
theorem d_Fr_cut_16 : decode b_Fr_cut 16 = .ok (.lushr, 1) := by decide +kernel
theorem d_Fr_cut_17 : decode b_Fr_cut 17 = .ok (.lload_n 0, 1) := by decide +kernel
theorem d_Fr_cut_18 : decode b_Fr_cut 18 = .ok (.bipush 64, 2) := by decide +kernel
theorem d_Fr_cut_20 : decode b_Fr_cut 20 = .ok (.iload_n 2, 1) := by decide +kernel
theorem d_Fr_cut_21 : decode b_Fr_cut 21 = .ok (.isub, 1) := by decide +kernel
theorem d_Fr_cut_22 : decode b_Fr_cut 22 = .ok (.lshl, 1) := by decide +kernel
theorem d_Fr_cut_23 : decode b_Fr_cut 23 = .ok (.lconst 0, 1) := by decide +kernel
theorem d_Fr_cut_24 : decode b_Fr_cut 24 = .ok (.lcmp, 1) := by decide +kernel
theorem d_Fr_cut_25 : decode b_Fr_cut 25 = .ok (.ifCond .eq 7, 3) := by decide +kernel
theorem d_Fr_cut_28 : decode b_Fr_cut 28 = .ok (.iconst 1, 1) := by decide +kernel
theorem d_Fr_cut_29 : decode b_Fr_cut 29 = .ok (.goto 4, 3) := by decide +kernel
theorem d_Fr_cut_32 : decode b_Fr_cut 32 = .ok (.iconst 0, 1) := by decide +kernel
theorem d_Fr_cut_33 : decode b_Fr_cut 33 = .ok (.i2l, 1) := by decide +kernel
theorem d_Fr_cut_34 : decode b_Fr_cut 34 = .ok (.lor, 1) := by decide +kernel
theorem d_Fr_cut_35 : decode b_Fr_cut 35 = .ok (.lreturn, 1) := by decide +kernel
theorem d_Fr_width_0 : decode b_Fr_width 0 = .ok (.iload_n 0, 1) := by decide +kernel
theorem d_Fr_width_1 : decode b_Fr_width 1 = .ok (.ifCond .eq 8, 3) := by decide +kernel
theorem d_Fr_width_4 : decode b_Fr_width 4 = .ok (.bipush 52, 2) := by decide +kernel
theorem d_Fr_width_6 : decode b_Fr_width 6 = .ok (.goto 5, 3) := by decide +kernel
theorem d_Fr_width_9 : decode b_Fr_width 9 = .ok (.bipush 23, 2) := by decide +kernel
theorem d_Fr_width_11 : decode b_Fr_width 11 = .ok (.ireturn, 1) := by decide +kernel
theorem d_Fr_lowest_0 : decode b_Fr_lowest 0 = .ok (.iload_n 0, 1) := by decide +kernel
theorem d_Fr_lowest_1 : decode b_Fr_lowest 1 = .ok (.ifCond .eq 9, 3) := by decide +kernel
theorem d_Fr_lowest_4 : decode b_Fr_lowest 4 = .ok (.sipush (-1022), 3) := by decide +kernel
theorem d_Fr_lowest_7 : decode b_Fr_lowest 7 = .ok (.goto 5, 3) := by decide +kernel
theorem d_Fr_lowest_10 : decode b_Fr_lowest 10 = .ok (.bipush (-126), 2) := by decide +kernel
theorem d_Fr_lowest_12 : decode b_Fr_lowest 12 = .ok (.ireturn, 1) := by decide +kernel
theorem d_Fr_infinity_0 : decode b_Fr_infinity 0 = .ok (.iload_n 0, 1) := by decide +kernel
theorem d_Fr_infinity_1 : decode b_Fr_infinity 1 = .ok (.ifCond .eq 9, 3) := by decide +kernel
theorem d_Fr_infinity_4 : decode b_Fr_infinity 4 = .ok (.ldc2_w 102, 3) := by decide +kernel
theorem d_Fr_infinity_7 : decode b_Fr_infinity 7 = .ok (.goto 6, 3) := by decide +kernel
theorem d_Fr_infinity_10 : decode b_Fr_infinity 10 = .ok (.ldc2_w 104, 3) := by decide +kernel
theorem d_Fr_infinity_13 : decode b_Fr_infinity 13 = .ok (.lreturn, 1) := by decide +kernel
theorem d_Fr_become_0 : decode b_Fr_become 0 = .ok (.aload_n 0, 1) := by decide +kernel
theorem d_Fr_become_1 : decode b_Fr_become 1 = .ok (.lload_n 1, 1) := by decide +kernel
theorem d_Fr_become_2 : decode b_Fr_become 2 = .ok (.lconst 0, 1) := by decide +kernel
theorem d_Fr_become_3 : decode b_Fr_become 3 = .ok (.lcmp, 1) := by decide +kernel
theorem d_Fr_become_4 : decode b_Fr_become 4 = .ok (.ifCond .ne 7, 3) := by decide +kernel
theorem d_Fr_become_7 : decode b_Fr_become 7 = .ok (.iconst 0, 1) := by decide +kernel
theorem d_Fr_become_8 : decode b_Fr_become 8 = .ok (.goto 4, 3) := by decide +kernel
theorem d_Fr_become_11 : decode b_Fr_become 11 = .ok (.iconst 1, 1) := by decide +kernel
theorem d_Fr_become_12 : decode b_Fr_become 12 = .ok (.putfield 17, 3) := by decide +kernel
theorem d_Fr_become_15 : decode b_Fr_become 15 = .ok (.aload_n 0, 1) := by decide +kernel
theorem d_Fr_become_16 : decode b_Fr_become 16 = .ok (.lload_n 1, 1) := by decide +kernel
theorem d_Fr_become_17 : decode b_Fr_become 17 = .ok (.putfield 34, 3) := by decide +kernel
theorem d_Fr_become_20 : decode b_Fr_become 20 = .ok (.aload_n 0, 1) := by decide +kernel
theorem d_Fr_become_21 : decode b_Fr_become 21 = .ok (.iload_n 3, 1) := by decide +kernel
theorem d_Fr_become_22 : decode b_Fr_become 22 = .ok (.putfield 38, 3) := by decide +kernel
theorem d_Fr_become_25 : decode b_Fr_become 25 = .ok (.bipush 32, 2) := by decide +kernel
theorem d_Fr_become_27 : decode b_Fr_become 27 = .ok (.istore 4, 2) := by decide +kernel
theorem d_Fr_become_29 : decode b_Fr_become 29 = .ok (.iload 4, 2) := by decide +kernel
theorem d_Fr_become_31 : decode b_Fr_become 31 = .ok (.ifCond .le 49, 3) := by decide +kernel
theorem d_Fr_become_34 : decode b_Fr_become 34 = .ok (.aload_n 0, 1) := by decide +kernel
theorem d_Fr_become_35 : decode b_Fr_become 35 = .ok (.getfield 34, 3) := by decide +kernel
theorem d_Fr_become_38 : decode b_Fr_become 38 = .ok (.bipush 63, 2) := by decide +kernel
theorem d_Fr_become_40 : decode b_Fr_become 40 = .ok (.iload 4, 2) := by decide +kernel
theorem d_Fr_become_42 : decode b_Fr_become 42 = .ok (.isub, 1) := by decide +kernel
theorem d_Fr_become_43 : decode b_Fr_become 43 = .ok (.lushr, 1) := by decide +kernel
theorem d_Fr_become_44 : decode b_Fr_become 44 = .ok (.lconst 0, 1) := by decide +kernel
theorem d_Fr_become_45 : decode b_Fr_become 45 = .ok (.lcmp, 1) := by decide +kernel
theorem d_Fr_become_46 : decode b_Fr_become 46 = .ok (.ifCond .ne 25, 3) := by decide +kernel
theorem d_Fr_become_49 : decode b_Fr_become 49 = .ok (.aload_n 0, 1) := by decide +kernel
theorem d_Fr_become_50 : decode b_Fr_become 50 = .ok (.dup, 1) := by decide +kernel
theorem d_Fr_become_51 : decode b_Fr_become 51 = .ok (.getfield 34, 3) := by decide +kernel
theorem d_Fr_become_54 : decode b_Fr_become 54 = .ok (.iload 4, 2) := by decide +kernel
theorem d_Fr_become_56 : decode b_Fr_become 56 = .ok (.lshl, 1) := by decide +kernel
theorem d_Fr_become_57 : decode b_Fr_become 57 = .ok (.putfield 34, 3) := by decide +kernel
theorem d_Fr_become_60 : decode b_Fr_become 60 = .ok (.aload_n 0, 1) := by decide +kernel
theorem d_Fr_become_61 : decode b_Fr_become 61 = .ok (.dup, 1) := by decide +kernel
theorem d_Fr_become_62 : decode b_Fr_become 62 = .ok (.getfield 38, 3) := by decide +kernel
theorem d_Fr_become_65 : decode b_Fr_become 65 = .ok (.iload 4, 2) := by decide +kernel
theorem d_Fr_become_67 : decode b_Fr_become 67 = .ok (.isub, 1) := by decide +kernel
theorem d_Fr_become_68 : decode b_Fr_become 68 = .ok (.putfield 38, 3) := by decide +kernel
theorem d_Fr_become_71 : decode b_Fr_become 71 = .ok (.iload 4, 2) := by decide +kernel
theorem d_Fr_become_73 : decode b_Fr_become 73 = .ok (.iconst 2, 1) := by decide +kernel
theorem d_Fr_become_74 : decode b_Fr_become 74 = .ok (.idiv, 1) := by decide +kernel
theorem d_Fr_become_75 : decode b_Fr_become 75 = .ok (.istore 4, 2) := by decide +kernel
theorem d_Fr_become_77 : decode b_Fr_become 77 = .ok (.goto (-48), 3) := by decide +kernel
theorem d_Fr_become_80 : decode b_Fr_become 80 = .ok (.return_, 1) := by decide +kernel
theorem d_Fr_unpack_0 : decode b_Fr_unpack 0 = .ok (.iload_n 3, 1) := by decide +kernel
theorem d_Fr_unpack_1 : decode b_Fr_unpack 1 = .ok (.invokestatic 7, 3) := by decide +kernel
theorem d_Fr_unpack_4 : decode b_Fr_unpack 4 = .ok (.istore 4, 2) := by decide +kernel
theorem d_Fr_unpack_6 : decode b_Fr_unpack 6 = .ok (.iload_n 3, 1) := by decide +kernel
theorem d_Fr_unpack_7 : decode b_Fr_unpack 7 = .ok (.ifCond .eq 9, 3) := by decide +kernel
theorem d_Fr_unpack_10 : decode b_Fr_unpack 10 = .ok (.sipush 2047, 3) := by decide +kernel
theorem d_Fr_unpack_13 : decode b_Fr_unpack 13 = .ok (.goto 6, 3) := by decide +kernel
theorem d_Fr_unpack_16 : decode b_Fr_unpack 16 = .ok (.sipush 255, 3) := by decide +kernel
theorem d_Fr_unpack_19 : decode b_Fr_unpack 19 = .ok (.istore 5, 2) := by decide +kernel
theorem d_Fr_unpack_21 : decode b_Fr_unpack 21 = .ok (.lload_n 1, 1) := by decide +kernel
theorem d_Fr_unpack_22 : decode b_Fr_unpack 22 = .ok (.iload 4, 2) := by decide +kernel
theorem d_Fr_unpack_24 : decode b_Fr_unpack 24 = .ok (.lushr, 1) := by decide +kernel
theorem d_Fr_unpack_25 : decode b_Fr_unpack 25 = .ok (.l2i, 1) := by decide +kernel
theorem d_Fr_unpack_26 : decode b_Fr_unpack 26 = .ok (.iload 5, 2) := by decide +kernel
theorem d_Fr_unpack_28 : decode b_Fr_unpack 28 = .ok (.iand, 1) := by decide +kernel
theorem d_Fr_unpack_29 : decode b_Fr_unpack 29 = .ok (.istore 6, 2) := by decide +kernel
theorem d_Fr_unpack_31 : decode b_Fr_unpack 31 = .ok (.lload_n 1, 1) := by decide +kernel
theorem d_Fr_unpack_32 : decode b_Fr_unpack 32 = .ok (.lconst 1, 1) := by decide +kernel
theorem d_Fr_unpack_33 : decode b_Fr_unpack 33 = .ok (.iload 4, 2) := by decide +kernel
theorem d_Fr_unpack_35 : decode b_Fr_unpack 35 = .ok (.lshl, 1) := by decide +kernel
theorem d_Fr_unpack_36 : decode b_Fr_unpack 36 = .ok (.lconst 1, 1) := by decide +kernel
theorem d_Fr_unpack_37 : decode b_Fr_unpack 37 = .ok (.lsub, 1) := by decide +kernel
theorem d_Fr_unpack_38 : decode b_Fr_unpack 38 = .ok (.land, 1) := by decide +kernel
theorem d_Fr_unpack_39 : decode b_Fr_unpack 39 = .ok (.lstore 7, 2) := by decide +kernel
theorem d_Fr_unpack_41 : decode b_Fr_unpack 41 = .ok (.aload_n 0, 1) := by decide +kernel
theorem d_Fr_unpack_42 : decode b_Fr_unpack 42 = .ok (.lload_n 1, 1) := by decide +kernel
theorem d_Fr_unpack_43 : decode b_Fr_unpack 43 = .ok (.iload_n 3, 1) := by decide +kernel
theorem d_Fr_unpack_44 : decode b_Fr_unpack 44 = .ok (.ifCond .eq 8, 3) := by decide +kernel
theorem d_Fr_unpack_47 : decode b_Fr_unpack 47 = .ok (.bipush 63, 2) := by decide +kernel
theorem d_Fr_unpack_49 : decode b_Fr_unpack 49 = .ok (.goto 5, 3) := by decide +kernel
theorem d_Fr_unpack_52 : decode b_Fr_unpack 52 = .ok (.bipush 31, 2) := by decide +kernel
theorem d_Fr_unpack_54 : decode b_Fr_unpack 54 = .ok (.lushr, 1) := by decide +kernel
theorem d_Fr_unpack_55 : decode b_Fr_unpack 55 = .ok (.lconst 1, 1) := by decide +kernel
theorem d_Fr_unpack_56 : decode b_Fr_unpack 56 = .ok (.land, 1) := by decide +kernel
theorem d_Fr_unpack_57 : decode b_Fr_unpack 57 = .ok (.lconst 0, 1) := by decide +kernel
theorem d_Fr_unpack_58 : decode b_Fr_unpack 58 = .ok (.lcmp, 1) := by decide +kernel
theorem d_Fr_unpack_59 : decode b_Fr_unpack 59 = .ok (.ifCond .eq 7, 3) := by decide +kernel
theorem d_Fr_unpack_62 : decode b_Fr_unpack 62 = .ok (.iconst 1, 1) := by decide +kernel
theorem d_Fr_unpack_63 : decode b_Fr_unpack 63 = .ok (.goto 4, 3) := by decide +kernel
theorem d_Fr_unpack_66 : decode b_Fr_unpack 66 = .ok (.iconst 0, 1) := by decide +kernel
theorem d_Fr_unpack_67 : decode b_Fr_unpack 67 = .ok (.putfield 13, 3) := by decide +kernel
theorem d_Fr_unpack_70 : decode b_Fr_unpack 70 = .ok (.iload 6, 2) := by decide +kernel
theorem d_Fr_unpack_72 : decode b_Fr_unpack 72 = .ok (.iload 5, 2) := by decide +kernel
theorem d_Fr_unpack_74 : decode b_Fr_unpack 74 = .ok (.if_icmp .ne 22, 3) := by decide +kernel
theorem d_Fr_unpack_77 : decode b_Fr_unpack 77 = .ok (.aload_n 0, 1) := by decide +kernel
theorem d_Fr_unpack_78 : decode b_Fr_unpack 78 = .ok (.lload 7, 2) := by decide +kernel
theorem d_Fr_unpack_80 : decode b_Fr_unpack 80 = .ok (.lconst 0, 1) := by decide +kernel
theorem d_Fr_unpack_81 : decode b_Fr_unpack 81 = .ok (.lcmp, 1) := by decide +kernel
theorem d_Fr_unpack_82 : decode b_Fr_unpack 82 = .ok (.ifCond .ne 7, 3) := by decide +kernel
theorem d_Fr_unpack_85 : decode b_Fr_unpack 85 = .ok (.iconst 2, 1) := by decide +kernel
theorem d_Fr_unpack_86 : decode b_Fr_unpack 86 = .ok (.goto 4, 3) := by decide +kernel
theorem d_Fr_unpack_89 : decode b_Fr_unpack 89 = .ok (.iconst 3, 1) := by decide +kernel
theorem d_Fr_unpack_90 : decode b_Fr_unpack 90 = .ok (.putfield 17, 3) := by decide +kernel
theorem d_Fr_unpack_93 : decode b_Fr_unpack 93 = .ok (.goto 53, 3) := by decide +kernel
theorem d_Fr_unpack_96 : decode b_Fr_unpack 96 = .ok (.iload 6, 2) := by decide +kernel
theorem d_Fr_unpack_98 : decode b_Fr_unpack 98 = .ok (.ifCond .ne 22, 3) := by decide +kernel
theorem d_Fr_unpack_101 : decode b_Fr_unpack 101 = .ok (.aload_n 0, 1) := by decide +kernel
theorem d_Fr_unpack_102 : decode b_Fr_unpack 102 = .ok (.lload 7, 2) := by decide +kernel
theorem d_Fr_unpack_104 : decode b_Fr_unpack 104 = .ok (.bipush 62, 2) := by decide +kernel
theorem d_Fr_unpack_106 : decode b_Fr_unpack 106 = .ok (.iload 4, 2) := by decide +kernel
theorem d_Fr_unpack_108 : decode b_Fr_unpack 108 = .ok (.isub, 1) := by decide +kernel
theorem d_Fr_unpack_109 : decode b_Fr_unpack 109 = .ok (.lshl, 1) := by decide +kernel
theorem d_Fr_unpack_110 : decode b_Fr_unpack 110 = .ok (.iload_n 3, 1) := by decide +kernel
theorem d_Fr_unpack_111 : decode b_Fr_unpack 111 = .ok (.invokestatic 21, 3) := by decide +kernel
theorem d_Fr_unpack_114 : decode b_Fr_unpack 114 = .ok (.invokevirtual 24, 3) := by decide +kernel
theorem d_Fr_unpack_117 : decode b_Fr_unpack 117 = .ok (.goto 29, 3) := by decide +kernel
theorem d_Fr_unpack_120 : decode b_Fr_unpack 120 = .ok (.aload_n 0, 1) := by decide +kernel
theorem d_Fr_unpack_121 : decode b_Fr_unpack 121 = .ok (.lload 7, 2) := by decide +kernel
theorem d_Fr_unpack_123 : decode b_Fr_unpack 123 = .ok (.lconst 1, 1) := by decide +kernel
theorem d_Fr_unpack_124 : decode b_Fr_unpack 124 = .ok (.iload 4, 2) := by decide +kernel
theorem d_Fr_unpack_126 : decode b_Fr_unpack 126 = .ok (.lshl, 1) := by decide +kernel
theorem d_Fr_unpack_127 : decode b_Fr_unpack 127 = .ok (.lor, 1) := by decide +kernel
theorem d_Fr_unpack_128 : decode b_Fr_unpack 128 = .ok (.bipush 62, 2) := by decide +kernel
theorem d_Fr_unpack_130 : decode b_Fr_unpack 130 = .ok (.iload 4, 2) := by decide +kernel
theorem d_Fr_unpack_132 : decode b_Fr_unpack 132 = .ok (.isub, 1) := by decide +kernel
theorem d_Fr_unpack_133 : decode b_Fr_unpack 133 = .ok (.lshl, 1) := by decide +kernel
theorem d_Fr_unpack_134 : decode b_Fr_unpack 134 = .ok (.iload 6, 2) := by decide +kernel
theorem d_Fr_unpack_136 : decode b_Fr_unpack 136 = .ok (.iconst 1, 1) := by decide +kernel
theorem d_Fr_unpack_137 : decode b_Fr_unpack 137 = .ok (.isub, 1) := by decide +kernel
theorem d_Fr_unpack_138 : decode b_Fr_unpack 138 = .ok (.iload_n 3, 1) := by decide +kernel
theorem d_Fr_unpack_139 : decode b_Fr_unpack 139 = .ok (.invokestatic 21, 3) := by decide +kernel
theorem d_Fr_unpack_142 : decode b_Fr_unpack 142 = .ok (.iadd, 1) := by decide +kernel
theorem d_Fr_unpack_143 : decode b_Fr_unpack 143 = .ok (.invokevirtual 24, 3) := by decide +kernel
theorem d_Fr_unpack_146 : decode b_Fr_unpack 146 = .ok (.return_, 1) := by decide +kernel
theorem d_Fr_fromWord_0 : decode b_Fr_fromWord 0 = .ok (.aload_n 0, 1) := by decide +kernel
theorem d_Fr_fromWord_1 : decode b_Fr_fromWord 1 = .ok (.iload_n 1, 1) := by decide +kernel
theorem d_Fr_fromWord_2 : decode b_Fr_fromWord 2 = .ok (.ifCond .ge 7, 3) := by decide +kernel
theorem d_Fr_fromWord_5 : decode b_Fr_fromWord 5 = .ok (.iconst 1, 1) := by decide +kernel
theorem d_Fr_fromWord_6 : decode b_Fr_fromWord 6 = .ok (.goto 4, 3) := by decide +kernel
theorem d_Fr_fromWord_9 : decode b_Fr_fromWord 9 = .ok (.iconst 0, 1) := by decide +kernel
theorem d_Fr_fromWord_10 : decode b_Fr_fromWord 10 = .ok (.putfield 13, 3) := by decide +kernel
theorem d_Fr_fromWord_13 : decode b_Fr_fromWord 13 = .ok (.aload_n 0, 1) := by decide +kernel
theorem d_Fr_fromWord_14 : decode b_Fr_fromWord 14 = .ok (.iload_n 1, 1) := by decide +kernel
theorem d_Fr_fromWord_15 : decode b_Fr_fromWord 15 = .ok (.i2l, 1) := by decide +kernel
theorem d_Fr_fromWord_16 : decode b_Fr_fromWord 16 = .ok (.invokestatic 28, 3) := by decide +kernel
theorem d_Fr_fromWord_19 : decode b_Fr_fromWord 19 = .ok (.bipush 62, 2) := by decide +kernel
theorem d_Fr_fromWord_21 : decode b_Fr_fromWord 21 = .ok (.invokevirtual 24, 3) := by decide +kernel
theorem d_Fr_fromWord_24 : decode b_Fr_fromWord 24 = .ok (.return_, 1) := by decide +kernel
theorem d_Fr_negate_0 : decode b_Fr_negate 0 = .ok (.aload_n 0, 1) := by decide +kernel
theorem d_Fr_negate_1 : decode b_Fr_negate 1 = .ok (.aload_n 0, 1) := by decide +kernel
theorem d_Fr_negate_2 : decode b_Fr_negate 2 = .ok (.getfield 13, 3) := by decide +kernel
theorem d_Fr_negate_5 : decode b_Fr_negate 5 = .ok (.ifCond .ne 7, 3) := by decide +kernel
theorem d_Fr_negate_8 : decode b_Fr_negate 8 = .ok (.iconst 1, 1) := by decide +kernel
theorem d_Fr_negate_9 : decode b_Fr_negate 9 = .ok (.goto 4, 3) := by decide +kernel
theorem d_Fr_negate_12 : decode b_Fr_negate 12 = .ok (.iconst 0, 1) := by decide +kernel
theorem d_Fr_negate_13 : decode b_Fr_negate 13 = .ok (.putfield 13, 3) := by decide +kernel
theorem d_Fr_negate_16 : decode b_Fr_negate 16 = .ok (.return_, 1) := by decide +kernel
theorem d_Fr_dropSign_0 : decode b_Fr_dropSign 0 = .ok (.aload_n 0, 1) := by decide +kernel
theorem d_Fr_dropSign_1 : decode b_Fr_dropSign 1 = .ok (.iconst 0, 1) := by decide +kernel
theorem d_Fr_dropSign_2 : decode b_Fr_dropSign 2 = .ok (.putfield 13, 3) := by decide +kernel
theorem d_Fr_dropSign_5 : decode b_Fr_dropSign 5 = .ok (.return_, 1) := by decide +kernel
theorem d_Fr_multiplyFinite_0 : decode b_Fr_multiplyFinite 0 = .ok (.aload_n 0, 1) := by decide +kernel
theorem d_Fr_multiplyFinite_1 : decode b_Fr_multiplyFinite 1 = .ok (.getfield 34, 3) := by decide +kernel
theorem d_Fr_multiplyFinite_4 : decode b_Fr_multiplyFinite 4 = .ok (.bipush 32, 2) := by decide +kernel
theorem d_Fr_multiplyFinite_6 : decode b_Fr_multiplyFinite 6 = .ok (.lushr, 1) := by decide +kernel
theorem d_Fr_multiplyFinite_7 : decode b_Fr_multiplyFinite 7 = .ok (.lstore 4, 2) := by decide +kernel
theorem d_Fr_multiplyFinite_9 : decode b_Fr_multiplyFinite 9 = .ok (.aload_n 0, 1) := by decide +kernel
theorem d_Fr_multiplyFinite_10 : decode b_Fr_multiplyFinite 10 = .ok (.getfield 34, 3) := by decide +kernel
theorem d_Fr_multiplyFinite_13 : decode b_Fr_multiplyFinite 13 = .ok (.ldc2_w 78, 3) := by decide +kernel
theorem d_Fr_multiplyFinite_16 : decode b_Fr_multiplyFinite 16 = .ok (.land, 1) := by decide +kernel
theorem d_Fr_multiplyFinite_17 : decode b_Fr_multiplyFinite 17 = .ok (.lstore 6, 2) := by decide +kernel
theorem d_Fr_multiplyFinite_19 : decode b_Fr_multiplyFinite 19 = .ok (.lload_n 1, 1) := by decide +kernel
theorem d_Fr_multiplyFinite_20 : decode b_Fr_multiplyFinite 20 = .ok (.bipush 32, 2) := by decide +kernel
theorem d_Fr_multiplyFinite_22 : decode b_Fr_multiplyFinite 22 = .ok (.lushr, 1) := by decide +kernel
theorem d_Fr_multiplyFinite_23 : decode b_Fr_multiplyFinite 23 = .ok (.lstore 8, 2) := by decide +kernel
theorem d_Fr_multiplyFinite_25 : decode b_Fr_multiplyFinite 25 = .ok (.lload_n 1, 1) := by decide +kernel
theorem d_Fr_multiplyFinite_26 : decode b_Fr_multiplyFinite 26 = .ok (.ldc2_w 78, 3) := by decide +kernel
theorem d_Fr_multiplyFinite_29 : decode b_Fr_multiplyFinite 29 = .ok (.land, 1) := by decide +kernel
theorem d_Fr_multiplyFinite_30 : decode b_Fr_multiplyFinite 30 = .ok (.lstore 10, 2) := by decide +kernel
theorem d_Fr_multiplyFinite_32 : decode b_Fr_multiplyFinite 32 = .ok (.lload 6, 2) := by decide +kernel
theorem d_Fr_multiplyFinite_34 : decode b_Fr_multiplyFinite 34 = .ok (.lload 10, 2) := by decide +kernel
theorem d_Fr_multiplyFinite_36 : decode b_Fr_multiplyFinite 36 = .ok (.lmul, 1) := by decide +kernel
theorem d_Fr_multiplyFinite_37 : decode b_Fr_multiplyFinite 37 = .ok (.lstore 12, 2) := by decide +kernel
theorem d_Fr_multiplyFinite_39 : decode b_Fr_multiplyFinite 39 = .ok (.lload 4, 2) := by decide +kernel
theorem d_Fr_multiplyFinite_41 : decode b_Fr_multiplyFinite 41 = .ok (.lload 10, 2) := by decide +kernel
theorem d_Fr_multiplyFinite_43 : decode b_Fr_multiplyFinite 43 = .ok (.lmul, 1) := by decide +kernel
theorem d_Fr_multiplyFinite_44 : decode b_Fr_multiplyFinite 44 = .ok (.lstore 14, 2) := by decide +kernel
theorem d_Fr_multiplyFinite_46 : decode b_Fr_multiplyFinite 46 = .ok (.lload 6, 2) := by decide +kernel
theorem d_Fr_multiplyFinite_48 : decode b_Fr_multiplyFinite 48 = .ok (.lload 8, 2) := by decide +kernel
theorem d_Fr_multiplyFinite_50 : decode b_Fr_multiplyFinite 50 = .ok (.lmul, 1) := by decide +kernel
theorem d_Fr_multiplyFinite_51 : decode b_Fr_multiplyFinite 51 = .ok (.lstore 16, 2) := by decide +kernel
theorem d_Fr_multiplyFinite_53 : decode b_Fr_multiplyFinite 53 = .ok (.lload 12, 2) := by decide +kernel
theorem d_Fr_multiplyFinite_55 : decode b_Fr_multiplyFinite 55 = .ok (.bipush 32, 2) := by decide +kernel
theorem d_Fr_multiplyFinite_57 : decode b_Fr_multiplyFinite 57 = .ok (.lushr, 1) := by decide +kernel
theorem d_Fr_multiplyFinite_58 : decode b_Fr_multiplyFinite 58 = .ok (.lload 14, 2) := by decide +kernel
theorem d_Fr_multiplyFinite_60 : decode b_Fr_multiplyFinite 60 = .ok (.ldc2_w 78, 3) := by decide +kernel
theorem d_Fr_multiplyFinite_63 : decode b_Fr_multiplyFinite 63 = .ok (.land, 1) := by decide +kernel
theorem d_Fr_multiplyFinite_64 : decode b_Fr_multiplyFinite 64 = .ok (.ladd, 1) := by decide +kernel
theorem d_Fr_multiplyFinite_65 : decode b_Fr_multiplyFinite 65 = .ok (.lload 16, 2) := by decide +kernel
theorem d_Fr_multiplyFinite_67 : decode b_Fr_multiplyFinite 67 = .ok (.ldc2_w 78, 3) := by decide +kernel
theorem d_Fr_multiplyFinite_70 : decode b_Fr_multiplyFinite 70 = .ok (.land, 1) := by decide +kernel
theorem d_Fr_multiplyFinite_71 : decode b_Fr_multiplyFinite 71 = .ok (.ladd, 1) := by decide +kernel
theorem d_Fr_multiplyFinite_72 : decode b_Fr_multiplyFinite 72 = .ok (.lstore 18, 2) := by decide +kernel
theorem d_Fr_multiplyFinite_74 : decode b_Fr_multiplyFinite 74 = .ok (.lload 4, 2) := by decide +kernel
theorem d_Fr_multiplyFinite_76 : decode b_Fr_multiplyFinite 76 = .ok (.lload 8, 2) := by decide +kernel
theorem d_Fr_multiplyFinite_78 : decode b_Fr_multiplyFinite 78 = .ok (.lmul, 1) := by decide +kernel
theorem d_Fr_multiplyFinite_79 : decode b_Fr_multiplyFinite 79 = .ok (.lload 14, 2) := by decide +kernel
theorem d_Fr_multiplyFinite_81 : decode b_Fr_multiplyFinite 81 = .ok (.bipush 32, 2) := by decide +kernel
theorem d_Fr_multiplyFinite_83 : decode b_Fr_multiplyFinite 83 = .ok (.lushr, 1) := by decide +kernel
theorem d_Fr_multiplyFinite_84 : decode b_Fr_multiplyFinite 84 = .ok (.ladd, 1) := by decide +kernel
theorem d_Fr_multiplyFinite_85 : decode b_Fr_multiplyFinite 85 = .ok (.lload 16, 2) := by decide +kernel
theorem d_Fr_multiplyFinite_87 : decode b_Fr_multiplyFinite 87 = .ok (.bipush 32, 2) := by decide +kernel
theorem d_Fr_multiplyFinite_89 : decode b_Fr_multiplyFinite 89 = .ok (.lushr, 1) := by decide +kernel
theorem d_Fr_multiplyFinite_90 : decode b_Fr_multiplyFinite 90 = .ok (.ladd, 1) := by decide +kernel
theorem d_Fr_multiplyFinite_91 : decode b_Fr_multiplyFinite 91 = .ok (.lload 18, 2) := by decide +kernel
theorem d_Fr_multiplyFinite_93 : decode b_Fr_multiplyFinite 93 = .ok (.bipush 32, 2) := by decide +kernel
theorem d_Fr_multiplyFinite_95 : decode b_Fr_multiplyFinite 95 = .ok (.lushr, 1) := by decide +kernel
theorem d_Fr_multiplyFinite_96 : decode b_Fr_multiplyFinite 96 = .ok (.ladd, 1) := by decide +kernel
theorem d_Fr_multiplyFinite_97 : decode b_Fr_multiplyFinite 97 = .ok (.lstore 20, 2) := by decide +kernel
theorem d_Fr_multiplyFinite_99 : decode b_Fr_multiplyFinite 99 = .ok (.lload 18, 2) := by decide +kernel
theorem d_Fr_multiplyFinite_101 : decode b_Fr_multiplyFinite 101 = .ok (.bipush 32, 2) := by decide +kernel
theorem d_Fr_multiplyFinite_103 : decode b_Fr_multiplyFinite 103 = .ok (.lshl, 1) := by decide +kernel
theorem d_Fr_multiplyFinite_104 : decode b_Fr_multiplyFinite 104 = .ok (.lload 12, 2) := by decide +kernel
theorem d_Fr_multiplyFinite_106 : decode b_Fr_multiplyFinite 106 = .ok (.ldc2_w 78, 3) := by decide +kernel
theorem d_Fr_multiplyFinite_109 : decode b_Fr_multiplyFinite 109 = .ok (.land, 1) := by decide +kernel
theorem d_Fr_multiplyFinite_110 : decode b_Fr_multiplyFinite 110 = .ok (.lor, 1) := by decide +kernel
theorem d_Fr_multiplyFinite_111 : decode b_Fr_multiplyFinite 111 = .ok (.lstore 12, 2) := by decide +kernel
theorem d_Fr_multiplyFinite_113 : decode b_Fr_multiplyFinite 113 = .ok (.aload_n 0, 1) := by decide +kernel
theorem d_Fr_multiplyFinite_114 : decode b_Fr_multiplyFinite 114 = .ok (.lload 20, 2) := by decide +kernel
theorem d_Fr_multiplyFinite_116 : decode b_Fr_multiplyFinite 116 = .ok (.iconst 1, 1) := by decide +kernel
theorem d_Fr_multiplyFinite_117 : decode b_Fr_multiplyFinite 117 = .ok (.lshl, 1) := by decide +kernel
theorem d_Fr_multiplyFinite_118 : decode b_Fr_multiplyFinite 118 = .ok (.lload 12, 2) := by decide +kernel
theorem d_Fr_multiplyFinite_120 : decode b_Fr_multiplyFinite 120 = .ok (.bipush 63, 2) := by decide +kernel
theorem d_Fr_multiplyFinite_122 : decode b_Fr_multiplyFinite 122 = .ok (.lushr, 1) := by decide +kernel
theorem d_Fr_multiplyFinite_123 : decode b_Fr_multiplyFinite 123 = .ok (.lor, 1) := by decide +kernel
theorem d_Fr_multiplyFinite_124 : decode b_Fr_multiplyFinite 124 = .ok (.lload 12, 2) := by decide +kernel
theorem d_Fr_multiplyFinite_126 : decode b_Fr_multiplyFinite 126 = .ok (.iconst 1, 1) := by decide +kernel
theorem d_Fr_multiplyFinite_127 : decode b_Fr_multiplyFinite 127 = .ok (.lshl, 1) := by decide +kernel
theorem d_Fr_multiplyFinite_128 : decode b_Fr_multiplyFinite 128 = .ok (.lconst 0, 1) := by decide +kernel
theorem d_Fr_multiplyFinite_129 : decode b_Fr_multiplyFinite 129 = .ok (.lcmp, 1) := by decide +kernel
theorem d_Fr_multiplyFinite_130 : decode b_Fr_multiplyFinite 130 = .ok (.ifCond .eq 7, 3) := by decide +kernel
theorem d_Fr_multiplyFinite_133 : decode b_Fr_multiplyFinite 133 = .ok (.iconst 1, 1) := by decide +kernel
theorem d_Fr_multiplyFinite_134 : decode b_Fr_multiplyFinite 134 = .ok (.goto 4, 3) := by decide +kernel
theorem d_Fr_multiplyFinite_137 : decode b_Fr_multiplyFinite 137 = .ok (.iconst 0, 1) := by decide +kernel
theorem d_Fr_multiplyFinite_138 : decode b_Fr_multiplyFinite 138 = .ok (.i2l, 1) := by decide +kernel
theorem d_Fr_multiplyFinite_139 : decode b_Fr_multiplyFinite 139 = .ok (.lor, 1) := by decide +kernel
theorem d_Fr_multiplyFinite_140 : decode b_Fr_multiplyFinite 140 = .ok (.aload_n 0, 1) := by decide +kernel
theorem d_Fr_multiplyFinite_141 : decode b_Fr_multiplyFinite 141 = .ok (.getfield 38, 3) := by decide +kernel
theorem d_Fr_multiplyFinite_144 : decode b_Fr_multiplyFinite 144 = .ok (.iload_n 3, 1) := by decide +kernel
theorem d_Fr_multiplyFinite_145 : decode b_Fr_multiplyFinite 145 = .ok (.iadd, 1) := by decide +kernel
theorem d_Fr_multiplyFinite_146 : decode b_Fr_multiplyFinite 146 = .ok (.iconst 1, 1) := by decide +kernel
theorem d_Fr_multiplyFinite_147 : decode b_Fr_multiplyFinite 147 = .ok (.iadd, 1) := by decide +kernel
theorem d_Fr_multiplyFinite_148 : decode b_Fr_multiplyFinite 148 = .ok (.invokevirtual 24, 3) := by decide +kernel
theorem d_Fr_multiplyFinite_151 : decode b_Fr_multiplyFinite 151 = .ok (.return_, 1) := by decide +kernel
theorem d_Fr_rootOfFinite_0 : decode b_Fr_rootOfFinite 0 = .ok (.aload_n 0, 1) := by decide +kernel
theorem d_Fr_rootOfFinite_1 : decode b_Fr_rootOfFinite 1 = .ok (.getfield 34, 3) := by decide +kernel
theorem d_Fr_rootOfFinite_4 : decode b_Fr_rootOfFinite 4 = .ok (.bipush 10, 2) := by decide +kernel
theorem d_Fr_rootOfFinite_6 : decode b_Fr_rootOfFinite 6 = .ok (.aload_n 0, 1) := by decide +kernel
theorem d_Fr_rootOfFinite_7 : decode b_Fr_rootOfFinite 7 = .ok (.getfield 38, 3) := by decide +kernel
theorem d_Fr_rootOfFinite_10 : decode b_Fr_rootOfFinite 10 = .ok (.iconst 1, 1) := by decide +kernel
theorem d_Fr_rootOfFinite_11 : decode b_Fr_rootOfFinite 11 = .ok (.iand, 1) := by decide +kernel
theorem d_Fr_rootOfFinite_12 : decode b_Fr_rootOfFinite 12 = .ok (.isub, 1) := by decide +kernel
theorem d_Fr_rootOfFinite_13 : decode b_Fr_rootOfFinite 13 = .ok (.lushr, 1) := by decide +kernel
theorem d_Fr_rootOfFinite_14 : decode b_Fr_rootOfFinite 14 = .ok (.lstore_n 1, 1) := by decide +kernel
theorem d_Fr_rootOfFinite_15 : decode b_Fr_rootOfFinite 15 = .ok (.lconst 0, 1) := by decide +kernel
theorem d_Fr_rootOfFinite_16 : decode b_Fr_rootOfFinite 16 = .ok (.lstore_n 3, 1) := by decide +kernel
theorem d_Fr_rootOfFinite_17 : decode b_Fr_rootOfFinite 17 = .ok (.lconst 0, 1) := by decide +kernel
theorem d_Fr_rootOfFinite_18 : decode b_Fr_rootOfFinite 18 = .ok (.lstore 5, 2) := by decide +kernel
theorem d_Fr_rootOfFinite_20 : decode b_Fr_rootOfFinite 20 = .ok (.iconst 0, 1) := by decide +kernel
theorem d_Fr_rootOfFinite_21 : decode b_Fr_rootOfFinite 21 = .ok (.istore 7, 2) := by decide +kernel
theorem d_Fr_rootOfFinite_23 : decode b_Fr_rootOfFinite 23 = .ok (.iload 7, 2) := by decide +kernel
theorem d_Fr_rootOfFinite_25 : decode b_Fr_rootOfFinite 25 = .ok (.bipush 56, 2) := by decide +kernel
theorem d_Fr_rootOfFinite_27 : decode b_Fr_rootOfFinite 27 = .ok (.if_icmp .ge 72, 3) := by decide +kernel
theorem d_Fr_rootOfFinite_30 : decode b_Fr_rootOfFinite 30 = .ok (.bipush 52, 2) := by decide +kernel
theorem d_Fr_rootOfFinite_32 : decode b_Fr_rootOfFinite 32 = .ok (.iconst 2, 1) := by decide +kernel
theorem d_Fr_rootOfFinite_33 : decode b_Fr_rootOfFinite 33 = .ok (.iload 7, 2) := by decide +kernel
theorem d_Fr_rootOfFinite_35 : decode b_Fr_rootOfFinite 35 = .ok (.imul, 1) := by decide +kernel
theorem d_Fr_rootOfFinite_36 : decode b_Fr_rootOfFinite 36 = .ok (.isub, 1) := by decide +kernel
theorem d_Fr_rootOfFinite_37 : decode b_Fr_rootOfFinite 37 = .ok (.istore 8, 2) := by decide +kernel
theorem d_Fr_rootOfFinite_39 : decode b_Fr_rootOfFinite 39 = .ok (.lload 5, 2) := by decide +kernel
theorem d_Fr_rootOfFinite_41 : decode b_Fr_rootOfFinite 41 = .ok (.iconst 2, 1) := by decide +kernel
theorem d_Fr_rootOfFinite_42 : decode b_Fr_rootOfFinite 42 = .ok (.lshl, 1) := by decide +kernel
theorem d_Fr_rootOfFinite_43 : decode b_Fr_rootOfFinite 43 = .ok (.iload 8, 2) := by decide +kernel
theorem d_Fr_rootOfFinite_45 : decode b_Fr_rootOfFinite 45 = .ok (.ifCond .lt 14, 3) := by decide +kernel
theorem d_Fr_rootOfFinite_48 : decode b_Fr_rootOfFinite 48 = .ok (.lload_n 1, 1) := by decide +kernel
theorem d_Fr_rootOfFinite_49 : decode b_Fr_rootOfFinite 49 = .ok (.iload 8, 2) := by decide +kernel
theorem d_Fr_rootOfFinite_51 : decode b_Fr_rootOfFinite 51 = .ok (.lushr, 1) := by decide +kernel
theorem d_Fr_rootOfFinite_52 : decode b_Fr_rootOfFinite 52 = .ok (.ldc2_w 86, 3) := by decide +kernel
theorem d_Fr_rootOfFinite_55 : decode b_Fr_rootOfFinite 55 = .ok (.land, 1) := by decide +kernel
theorem d_Fr_rootOfFinite_56 : decode b_Fr_rootOfFinite 56 = .ok (.goto 4, 3) := by decide +kernel
theorem d_Fr_rootOfFinite_59 : decode b_Fr_rootOfFinite 59 = .ok (.lconst 0, 1) := by decide +kernel
theorem d_Fr_rootOfFinite_60 : decode b_Fr_rootOfFinite 60 = .ok (.lor, 1) := by decide +kernel
theorem d_Fr_rootOfFinite_61 : decode b_Fr_rootOfFinite 61 = .ok (.lstore 5, 2) := by decide +kernel
theorem d_Fr_rootOfFinite_63 : decode b_Fr_rootOfFinite 63 = .ok (.lload_n 3, 1) := by decide +kernel
theorem d_Fr_rootOfFinite_64 : decode b_Fr_rootOfFinite 64 = .ok (.iconst 2, 1) := by decide +kernel
theorem d_Fr_rootOfFinite_65 : decode b_Fr_rootOfFinite 65 = .ok (.lshl, 1) := by decide +kernel
theorem d_Fr_rootOfFinite_66 : decode b_Fr_rootOfFinite 66 = .ok (.lconst 1, 1) := by decide +kernel
theorem d_Fr_rootOfFinite_67 : decode b_Fr_rootOfFinite 67 = .ok (.lor, 1) := by decide +kernel
theorem d_Fr_rootOfFinite_68 : decode b_Fr_rootOfFinite 68 = .ok (.lstore 9, 2) := by decide +kernel
theorem d_Fr_rootOfFinite_70 : decode b_Fr_rootOfFinite 70 = .ok (.lload_n 3, 1) := by decide +kernel
theorem d_Fr_rootOfFinite_71 : decode b_Fr_rootOfFinite 71 = .ok (.iconst 1, 1) := by decide +kernel
theorem d_Fr_rootOfFinite_72 : decode b_Fr_rootOfFinite 72 = .ok (.lshl, 1) := by decide +kernel
theorem d_Fr_rootOfFinite_73 : decode b_Fr_rootOfFinite 73 = .ok (.lstore_n 3, 1) := by decide +kernel
theorem d_Fr_rootOfFinite_74 : decode b_Fr_rootOfFinite 74 = .ok (.lload 5, 2) := by decide +kernel
theorem d_Fr_rootOfFinite_76 : decode b_Fr_rootOfFinite 76 = .ok (.lload 9, 2) := by decide +kernel
theorem d_Fr_rootOfFinite_78 : decode b_Fr_rootOfFinite 78 = .ok (.lcmp, 1) := by decide +kernel
theorem d_Fr_rootOfFinite_79 : decode b_Fr_rootOfFinite 79 = .ok (.ifCond .lt 14, 3) := by decide +kernel
theorem d_Fr_rootOfFinite_82 : decode b_Fr_rootOfFinite 82 = .ok (.lload 5, 2) := by decide +kernel
theorem d_Fr_rootOfFinite_84 : decode b_Fr_rootOfFinite 84 = .ok (.lload 9, 2) := by decide +kernel
theorem d_Fr_rootOfFinite_86 : decode b_Fr_rootOfFinite 86 = .ok (.lsub, 1) := by decide +kernel
theorem d_Fr_rootOfFinite_87 : decode b_Fr_rootOfFinite 87 = .ok (.lstore 5, 2) := by decide +kernel
theorem d_Fr_rootOfFinite_89 : decode b_Fr_rootOfFinite 89 = .ok (.lload_n 3, 1) := by decide +kernel
theorem d_Fr_rootOfFinite_90 : decode b_Fr_rootOfFinite 90 = .ok (.lconst 1, 1) := by decide +kernel
theorem d_Fr_rootOfFinite_91 : decode b_Fr_rootOfFinite 91 = .ok (.lor, 1) := by decide +kernel
theorem d_Fr_rootOfFinite_92 : decode b_Fr_rootOfFinite 92 = .ok (.lstore_n 3, 1) := by decide +kernel
theorem d_Fr_rootOfFinite_93 : decode b_Fr_rootOfFinite 93 = .ok (.iinc 7 1, 3) := by decide +kernel
theorem d_Fr_rootOfFinite_96 : decode b_Fr_rootOfFinite 96 = .ok (.goto (-73), 3) := by decide +kernel
theorem d_Fr_rootOfFinite_99 : decode b_Fr_rootOfFinite 99 = .ok (.aload_n 0, 1) := by decide +kernel
theorem d_Fr_rootOfFinite_100 : decode b_Fr_rootOfFinite 100 = .ok (.lload_n 3, 1) := by decide +kernel
theorem d_Fr_rootOfFinite_101 : decode b_Fr_rootOfFinite 101 = .ok (.bipush 7, 2) := by decide +kernel
theorem d_Fr_rootOfFinite_103 : decode b_Fr_rootOfFinite 103 = .ok (.lshl, 1) := by decide +kernel
theorem d_Fr_rootOfFinite_104 : decode b_Fr_rootOfFinite 104 = .ok (.lload 5, 2) := by decide +kernel
theorem d_Fr_rootOfFinite_106 : decode b_Fr_rootOfFinite 106 = .ok (.lconst 0, 1) := by decide +kernel
theorem d_Fr_rootOfFinite_107 : decode b_Fr_rootOfFinite 107 = .ok (.lcmp, 1) := by decide +kernel
theorem d_Fr_rootOfFinite_108 : decode b_Fr_rootOfFinite 108 = .ok (.ifCond .eq 7, 3) := by decide +kernel
theorem d_Fr_rootOfFinite_111 : decode b_Fr_rootOfFinite 111 = .ok (.iconst 1, 1) := by decide +kernel
theorem d_Fr_rootOfFinite_112 : decode b_Fr_rootOfFinite 112 = .ok (.goto 4, 3) := by decide +kernel
theorem d_Fr_rootOfFinite_115 : decode b_Fr_rootOfFinite 115 = .ok (.iconst 0, 1) := by decide +kernel
theorem d_Fr_rootOfFinite_116 : decode b_Fr_rootOfFinite 116 = .ok (.i2l, 1) := by decide +kernel
theorem d_Fr_rootOfFinite_117 : decode b_Fr_rootOfFinite 117 = .ok (.lor, 1) := by decide +kernel
theorem d_Fr_rootOfFinite_118 : decode b_Fr_rootOfFinite 118 = .ok (.aload_n 0, 1) := by decide +kernel
theorem d_Fr_rootOfFinite_119 : decode b_Fr_rootOfFinite 119 = .ok (.getfield 38, 3) := by decide +kernel
theorem d_Fr_rootOfFinite_122 : decode b_Fr_rootOfFinite 122 = .ok (.iconst 1, 1) := by decide +kernel
theorem d_Fr_rootOfFinite_123 : decode b_Fr_rootOfFinite 123 = .ok (.ishr, 1) := by decide +kernel
theorem d_Fr_rootOfFinite_124 : decode b_Fr_rootOfFinite 124 = .ok (.invokevirtual 24, 3) := by decide +kernel
theorem d_Fr_rootOfFinite_127 : decode b_Fr_rootOfFinite 127 = .ok (.return_, 1) := by decide +kernel
theorem d_Fr_root_0 : decode b_Fr_root 0 = .ok (.aload_n 0, 1) := by decide +kernel
theorem d_Fr_root_1 : decode b_Fr_root 1 = .ok (.getfield 17, 3) := by decide +kernel
theorem d_Fr_root_4 : decode b_Fr_root 4 = .ok (.ifCond .eq 11, 3) := by decide +kernel
theorem d_Fr_root_7 : decode b_Fr_root 7 = .ok (.aload_n 0, 1) := by decide +kernel
theorem d_Fr_root_8 : decode b_Fr_root 8 = .ok (.getfield 17, 3) := by decide +kernel
theorem d_Fr_root_11 : decode b_Fr_root 11 = .ok (.iconst 3, 1) := by decide +kernel
theorem d_Fr_root_12 : decode b_Fr_root 12 = .ok (.if_icmp .ne 4, 3) := by decide +kernel
theorem d_Fr_root_15 : decode b_Fr_root 15 = .ok (.return_, 1) := by decide +kernel
theorem d_Fr_root_16 : decode b_Fr_root 16 = .ok (.aload_n 0, 1) := by decide +kernel
theorem d_Fr_root_17 : decode b_Fr_root 17 = .ok (.getfield 13, 3) := by decide +kernel
theorem d_Fr_root_20 : decode b_Fr_root 20 = .ok (.ifCond .eq 11, 3) := by decide +kernel
theorem d_Fr_root_23 : decode b_Fr_root 23 = .ok (.aload_n 0, 1) := by decide +kernel
theorem d_Fr_root_24 : decode b_Fr_root 24 = .ok (.iconst 3, 1) := by decide +kernel
theorem d_Fr_root_25 : decode b_Fr_root 25 = .ok (.putfield 17, 3) := by decide +kernel
theorem d_Fr_root_28 : decode b_Fr_root 28 = .ok (.goto 15, 3) := by decide +kernel
theorem d_Fr_root_31 : decode b_Fr_root 31 = .ok (.aload_n 0, 1) := by decide +kernel
theorem d_Fr_root_32 : decode b_Fr_root 32 = .ok (.getfield 17, 3) := by decide +kernel
theorem d_Fr_root_35 : decode b_Fr_root 35 = .ok (.iconst 1, 1) := by decide +kernel
theorem d_Fr_root_36 : decode b_Fr_root 36 = .ok (.if_icmp .ne 7, 3) := by decide +kernel
theorem d_Fr_root_39 : decode b_Fr_root 39 = .ok (.aload_n 0, 1) := by decide +kernel
theorem d_Fr_root_40 : decode b_Fr_root 40 = .ok (.invokevirtual 83, 3) := by decide +kernel
theorem d_Fr_root_43 : decode b_Fr_root 43 = .ok (.return_, 1) := by decide +kernel
theorem d_Fr_divideFinite_0 : decode b_Fr_divideFinite 0 = .ok (.aload_n 0, 1) := by decide +kernel
theorem d_Fr_divideFinite_1 : decode b_Fr_divideFinite 1 = .ok (.getfield 34, 3) := by decide +kernel
theorem d_Fr_divideFinite_4 : decode b_Fr_divideFinite 4 = .ok (.bipush 10, 2) := by decide +kernel
theorem d_Fr_divideFinite_6 : decode b_Fr_divideFinite 6 = .ok (.lushr, 1) := by decide +kernel
theorem d_Fr_divideFinite_7 : decode b_Fr_divideFinite 7 = .ok (.lstore 4, 2) := by decide +kernel
theorem d_Fr_divideFinite_9 : decode b_Fr_divideFinite 9 = .ok (.lconst 0, 1) := by decide +kernel
theorem d_Fr_divideFinite_10 : decode b_Fr_divideFinite 10 = .ok (.lstore 6, 2) := by decide +kernel
theorem d_Fr_divideFinite_12 : decode b_Fr_divideFinite 12 = .ok (.iconst 0, 1) := by decide +kernel
theorem d_Fr_divideFinite_13 : decode b_Fr_divideFinite 13 = .ok (.istore 8, 2) := by decide +kernel
theorem d_Fr_divideFinite_15 : decode b_Fr_divideFinite 15 = .ok (.iload 8, 2) := by decide +kernel
theorem d_Fr_divideFinite_17 : decode b_Fr_divideFinite 17 = .ok (.bipush 56, 2) := by decide +kernel
theorem d_Fr_divideFinite_19 : decode b_Fr_divideFinite 19 = .ok (.if_icmp .ge 40, 3) := by decide +kernel
theorem d_Fr_divideFinite_22 : decode b_Fr_divideFinite 22 = .ok (.lload 6, 2) := by decide +kernel
theorem d_Fr_divideFinite_24 : decode b_Fr_divideFinite 24 = .ok (.iconst 1, 1) := by decide +kernel
theorem d_Fr_divideFinite_25 : decode b_Fr_divideFinite 25 = .ok (.lshl, 1) := by decide +kernel
theorem d_Fr_divideFinite_26 : decode b_Fr_divideFinite 26 = .ok (.lstore 6, 2) := by decide +kernel
theorem d_Fr_divideFinite_28 : decode b_Fr_divideFinite 28 = .ok (.lload 4, 2) := by decide +kernel
theorem d_Fr_divideFinite_30 : decode b_Fr_divideFinite 30 = .ok (.lload_n 1, 1) := by decide +kernel
theorem d_Fr_divideFinite_31 : decode b_Fr_divideFinite 31 = .ok (.lcmp, 1) := by decide +kernel
theorem d_Fr_divideFinite_32 : decode b_Fr_divideFinite 32 = .ok (.ifCond .lt 15, 3) := by decide +kernel
theorem d_Fr_divideFinite_35 : decode b_Fr_divideFinite 35 = .ok (.lload 4, 2) := by decide +kernel
theorem d_Fr_divideFinite_37 : decode b_Fr_divideFinite 37 = .ok (.lload_n 1, 1) := by decide +kernel
theorem d_Fr_divideFinite_38 : decode b_Fr_divideFinite 38 = .ok (.lsub, 1) := by decide +kernel
theorem d_Fr_divideFinite_39 : decode b_Fr_divideFinite 39 = .ok (.lstore 4, 2) := by decide +kernel
theorem d_Fr_divideFinite_41 : decode b_Fr_divideFinite 41 = .ok (.lload 6, 2) := by decide +kernel
theorem d_Fr_divideFinite_43 : decode b_Fr_divideFinite 43 = .ok (.lconst 1, 1) := by decide +kernel
theorem d_Fr_divideFinite_44 : decode b_Fr_divideFinite 44 = .ok (.lor, 1) := by decide +kernel
theorem d_Fr_divideFinite_45 : decode b_Fr_divideFinite 45 = .ok (.lstore 6, 2) := by decide +kernel
theorem d_Fr_divideFinite_47 : decode b_Fr_divideFinite 47 = .ok (.lload 4, 2) := by decide +kernel
theorem d_Fr_divideFinite_49 : decode b_Fr_divideFinite 49 = .ok (.iconst 1, 1) := by decide +kernel
theorem d_Fr_divideFinite_50 : decode b_Fr_divideFinite 50 = .ok (.lshl, 1) := by decide +kernel
theorem d_Fr_divideFinite_51 : decode b_Fr_divideFinite 51 = .ok (.lstore 4, 2) := by decide +kernel
theorem d_Fr_divideFinite_53 : decode b_Fr_divideFinite 53 = .ok (.iinc 8 1, 3) := by decide +kernel
theorem d_Fr_divideFinite_56 : decode b_Fr_divideFinite 56 = .ok (.goto (-41), 3) := by decide +kernel
theorem d_Fr_divideFinite_59 : decode b_Fr_divideFinite 59 = .ok (.aload_n 0, 1) := by decide +kernel
theorem d_Fr_divideFinite_60 : decode b_Fr_divideFinite 60 = .ok (.lload 6, 2) := by decide +kernel
theorem d_Fr_divideFinite_62 : decode b_Fr_divideFinite 62 = .ok (.bipush 7, 2) := by decide +kernel
theorem d_Fr_divideFinite_64 : decode b_Fr_divideFinite 64 = .ok (.lshl, 1) := by decide +kernel
theorem d_Fr_divideFinite_65 : decode b_Fr_divideFinite 65 = .ok (.lload 4, 2) := by decide +kernel
theorem d_Fr_divideFinite_67 : decode b_Fr_divideFinite 67 = .ok (.lconst 0, 1) := by decide +kernel
theorem d_Fr_divideFinite_68 : decode b_Fr_divideFinite 68 = .ok (.lcmp, 1) := by decide +kernel
theorem d_Fr_divideFinite_69 : decode b_Fr_divideFinite 69 = .ok (.ifCond .eq 7, 3) := by decide +kernel
theorem d_Fr_divideFinite_72 : decode b_Fr_divideFinite 72 = .ok (.iconst 1, 1) := by decide +kernel
theorem d_Fr_divideFinite_73 : decode b_Fr_divideFinite 73 = .ok (.goto 4, 3) := by decide +kernel
theorem d_Fr_divideFinite_76 : decode b_Fr_divideFinite 76 = .ok (.iconst 0, 1) := by decide +kernel
theorem d_Fr_divideFinite_77 : decode b_Fr_divideFinite 77 = .ok (.i2l, 1) := by decide +kernel
theorem d_Fr_divideFinite_78 : decode b_Fr_divideFinite 78 = .ok (.lor, 1) := by decide +kernel
theorem d_Fr_divideFinite_79 : decode b_Fr_divideFinite 79 = .ok (.aload_n 0, 1) := by decide +kernel
theorem d_Fr_divideFinite_80 : decode b_Fr_divideFinite 80 = .ok (.getfield 38, 3) := by decide +kernel
theorem d_Fr_divideFinite_83 : decode b_Fr_divideFinite 83 = .ok (.iload_n 3, 1) := by decide +kernel
theorem d_Fr_divideFinite_84 : decode b_Fr_divideFinite 84 = .ok (.isub, 1) := by decide +kernel
theorem d_Fr_divideFinite_85 : decode b_Fr_divideFinite 85 = .ok (.invokevirtual 24, 3) := by decide +kernel
theorem d_Fr_divideFinite_88 : decode b_Fr_divideFinite 88 = .ok (.return_, 1) := by decide +kernel
theorem d_Fr_awayFromZero_0 : decode b_Fr_awayFromZero 0 = .ok (.iload_n 1, 1) := by decide +kernel
theorem d_Fr_awayFromZero_1 : decode b_Fr_awayFromZero 1 = .ok (.ifCond .ne 33, 3) := by decide +kernel
theorem d_Fr_awayFromZero_4 : decode b_Fr_awayFromZero 4 = .ok (.lload 4, 2) := by decide +kernel
theorem d_Fr_awayFromZero_6 : decode b_Fr_awayFromZero 6 = .ok (.lload 6, 2) := by decide +kernel
theorem d_Fr_awayFromZero_8 : decode b_Fr_awayFromZero 8 = .ok (.lcmp, 1) := by decide +kernel
theorem d_Fr_awayFromZero_9 : decode b_Fr_awayFromZero 9 = .ok (.ifCond .gt 19, 3) := by decide +kernel
theorem d_Fr_awayFromZero_12 : decode b_Fr_awayFromZero 12 = .ok (.lload 4, 2) := by decide +kernel
theorem d_Fr_awayFromZero_14 : decode b_Fr_awayFromZero 14 = .ok (.lload 6, 2) := by decide +kernel
theorem d_Fr_awayFromZero_16 : decode b_Fr_awayFromZero 16 = .ok (.lcmp, 1) := by decide +kernel
theorem d_Fr_awayFromZero_17 : decode b_Fr_awayFromZero 17 = .ok (.ifCond .ne 15, 3) := by decide +kernel
theorem d_Fr_awayFromZero_20 : decode b_Fr_awayFromZero 20 = .ok (.lload_n 2, 1) := by decide +kernel
theorem d_Fr_awayFromZero_21 : decode b_Fr_awayFromZero 21 = .ok (.lconst 1, 1) := by decide +kernel
theorem d_Fr_awayFromZero_22 : decode b_Fr_awayFromZero 22 = .ok (.land, 1) := by decide +kernel
theorem d_Fr_awayFromZero_23 : decode b_Fr_awayFromZero 23 = .ok (.lconst 0, 1) := by decide +kernel
theorem d_Fr_awayFromZero_24 : decode b_Fr_awayFromZero 24 = .ok (.lcmp, 1) := by decide +kernel
theorem d_Fr_awayFromZero_25 : decode b_Fr_awayFromZero 25 = .ok (.ifCond .eq 7, 3) := by decide +kernel
theorem d_Fr_awayFromZero_28 : decode b_Fr_awayFromZero 28 = .ok (.iconst 1, 1) := by decide +kernel
theorem d_Fr_awayFromZero_29 : decode b_Fr_awayFromZero 29 = .ok (.goto 4, 3) := by decide +kernel
theorem d_Fr_awayFromZero_32 : decode b_Fr_awayFromZero 32 = .ok (.iconst 0, 1) := by decide +kernel
theorem d_Fr_awayFromZero_33 : decode b_Fr_awayFromZero 33 = .ok (.ireturn, 1) := by decide +kernel
theorem d_Fr_awayFromZero_34 : decode b_Fr_awayFromZero 34 = .ok (.iload_n 1, 1) := by decide +kernel
theorem d_Fr_awayFromZero_35 : decode b_Fr_awayFromZero 35 = .ok (.iconst 1, 1) := by decide +kernel
theorem d_Fr_awayFromZero_36 : decode b_Fr_awayFromZero 36 = .ok (.if_icmp .ne 5, 3) := by decide +kernel
theorem d_Fr_awayFromZero_39 : decode b_Fr_awayFromZero 39 = .ok (.iconst 0, 1) := by decide +kernel
theorem d_Fr_awayFromZero_40 : decode b_Fr_awayFromZero 40 = .ok (.ireturn, 1) := by decide +kernel
theorem d_Fr_awayFromZero_41 : decode b_Fr_awayFromZero 41 = .ok (.lload 4, 2) := by decide +kernel
theorem d_Fr_awayFromZero_43 : decode b_Fr_awayFromZero 43 = .ok (.lconst 0, 1) := by decide +kernel
theorem d_Fr_awayFromZero_44 : decode b_Fr_awayFromZero 44 = .ok (.lcmp, 1) := by decide +kernel
theorem d_Fr_awayFromZero_45 : decode b_Fr_awayFromZero 45 = .ok (.ifCond .eq 24, 3) := by decide +kernel
theorem d_Fr_awayFromZero_48 : decode b_Fr_awayFromZero 48 = .ok (.aload_n 0, 1) := by decide +kernel
theorem d_Fr_awayFromZero_49 : decode b_Fr_awayFromZero 49 = .ok (.getfield 13, 3) := by decide +kernel
theorem d_Fr_awayFromZero_52 : decode b_Fr_awayFromZero 52 = .ok (.iload_n 1, 1) := by decide +kernel
theorem d_Fr_awayFromZero_53 : decode b_Fr_awayFromZero 53 = .ok (.iconst 2, 1) := by decide +kernel
theorem d_Fr_awayFromZero_54 : decode b_Fr_awayFromZero 54 = .ok (.if_icmp .ne 7, 3) := by decide +kernel
theorem d_Fr_awayFromZero_57 : decode b_Fr_awayFromZero 57 = .ok (.iconst 1, 1) := by decide +kernel
theorem d_Fr_awayFromZero_58 : decode b_Fr_awayFromZero 58 = .ok (.goto 4, 3) := by decide +kernel
theorem d_Fr_awayFromZero_61 : decode b_Fr_awayFromZero 61 = .ok (.iconst 0, 1) := by decide +kernel
theorem d_Fr_awayFromZero_62 : decode b_Fr_awayFromZero 62 = .ok (.if_icmp .eq 7, 3) := by decide +kernel
theorem d_Fr_awayFromZero_65 : decode b_Fr_awayFromZero 65 = .ok (.iconst 1, 1) := by decide +kernel
theorem d_Fr_awayFromZero_66 : decode b_Fr_awayFromZero 66 = .ok (.goto 4, 3) := by decide +kernel
theorem d_Fr_awayFromZero_69 : decode b_Fr_awayFromZero 69 = .ok (.iconst 0, 1) := by decide +kernel
theorem d_Fr_awayFromZero_70 : decode b_Fr_awayFromZero 70 = .ok (.ireturn, 1) := by decide +kernel
theorem d_Fr_rounded_0 : decode b_Fr_rounded 0 = .ok (.aload_n 0, 1) := by decide +kernel
theorem d_Fr_rounded_1 : decode b_Fr_rounded 1 = .ok (.getfield 38, 3) := by decide +kernel
theorem d_Fr_rounded_4 : decode b_Fr_rounded 4 = .ok (.iload_n 1, 1) := by decide +kernel
theorem d_Fr_rounded_5 : decode b_Fr_rounded 5 = .ok (.invokestatic 21, 3) := by decide +kernel
theorem d_Fr_rounded_8 : decode b_Fr_rounded 8 = .ok (.isub, 1) := by decide +kernel
theorem d_Fr_rounded_9 : decode b_Fr_rounded 9 = .ok (.istore_n 2, 1) := by decide +kernel
theorem d_Fr_rounded_10 : decode b_Fr_rounded 10 = .ok (.aload_n 0, 1) := by decide +kernel
theorem d_Fr_rounded_11 : decode b_Fr_rounded 11 = .ok (.getfield 38, 3) := by decide +kernel
theorem d_Fr_rounded_14 : decode b_Fr_rounded 14 = .ok (.iconst 1, 1) := by decide +kernel
theorem d_Fr_rounded_15 : decode b_Fr_rounded 15 = .ok (.iload_n 1, 1) := by decide +kernel
theorem d_Fr_rounded_16 : decode b_Fr_rounded 16 = .ok (.invokestatic 21, 3) := by decide +kernel
theorem d_Fr_rounded_19 : decode b_Fr_rounded 19 = .ok (.isub, 1) := by decide +kernel
theorem d_Fr_rounded_20 : decode b_Fr_rounded 20 = .ok (.if_icmp .le 8, 3) := by decide +kernel
theorem d_Fr_rounded_23 : decode b_Fr_rounded 23 = .ok (.iload_n 1, 1) := by decide +kernel
theorem d_Fr_rounded_24 : decode b_Fr_rounded 24 = .ok (.invokestatic 45, 3) := by decide +kernel
theorem d_Fr_rounded_27 : decode b_Fr_rounded 27 = .ok (.lreturn, 1) := by decide +kernel
theorem d_Fr_rounded_28 : decode b_Fr_rounded 28 = .ok (.bipush 62, 2) := by decide +kernel
theorem d_Fr_rounded_30 : decode b_Fr_rounded 30 = .ok (.iload_n 1, 1) := by decide +kernel
theorem d_Fr_rounded_31 : decode b_Fr_rounded 31 = .ok (.invokestatic 7, 3) := by decide +kernel
theorem d_Fr_rounded_34 : decode b_Fr_rounded 34 = .ok (.isub, 1) := by decide +kernel
theorem d_Fr_rounded_35 : decode b_Fr_rounded 35 = .ok (.iload_n 2, 1) := by decide +kernel
theorem d_Fr_rounded_36 : decode b_Fr_rounded 36 = .ok (.iconst 0, 1) := by decide +kernel
theorem d_Fr_rounded_37 : decode b_Fr_rounded 37 = .ok (.invokestatic 52, 3) := by decide +kernel
theorem d_Fr_rounded_40 : decode b_Fr_rounded 40 = .ok (.isub, 1) := by decide +kernel
theorem d_Fr_rounded_41 : decode b_Fr_rounded 41 = .ok (.istore_n 3, 1) := by decide +kernel
theorem d_Fr_rounded_42 : decode b_Fr_rounded 42 = .ok (.iload_n 3, 1) := by decide +kernel
theorem d_Fr_rounded_43 : decode b_Fr_rounded 43 = .ok (.bipush 63, 2) := by decide +kernel
theorem d_Fr_rounded_45 : decode b_Fr_rounded 45 = .ok (.if_icmp .le 5, 3) := by decide +kernel
theorem d_Fr_rounded_48 : decode b_Fr_rounded 48 = .ok (.lconst 0, 1) := by decide +kernel
theorem d_Fr_rounded_49 : decode b_Fr_rounded 49 = .ok (.lreturn, 1) := by decide +kernel
theorem d_Fr_rounded_50 : decode b_Fr_rounded 50 = .ok (.aload_n 0, 1) := by decide +kernel
theorem d_Fr_rounded_51 : decode b_Fr_rounded 51 = .ok (.getfield 34, 3) := by decide +kernel
theorem d_Fr_rounded_54 : decode b_Fr_rounded 54 = .ok (.iload_n 3, 1) := by decide +kernel
theorem d_Fr_rounded_55 : decode b_Fr_rounded 55 = .ok (.lushr, 1) := by decide +kernel
theorem d_Fr_rounded_56 : decode b_Fr_rounded 56 = .ok (.lstore 4, 2) := by decide +kernel
theorem d_Fr_rounded_58 : decode b_Fr_rounded 58 = .ok (.aload_n 0, 1) := by decide +kernel
theorem d_Fr_rounded_59 : decode b_Fr_rounded 59 = .ok (.getfield 34, 3) := by decide +kernel
theorem d_Fr_rounded_62 : decode b_Fr_rounded 62 = .ok (.lconst 1, 1) := by decide +kernel
theorem d_Fr_rounded_63 : decode b_Fr_rounded 63 = .ok (.iload_n 3, 1) := by decide +kernel
theorem d_Fr_rounded_64 : decode b_Fr_rounded 64 = .ok (.lshl, 1) := by decide +kernel
theorem d_Fr_rounded_65 : decode b_Fr_rounded 65 = .ok (.lconst 1, 1) := by decide +kernel
theorem d_Fr_rounded_66 : decode b_Fr_rounded 66 = .ok (.lsub, 1) := by decide +kernel
theorem d_Fr_rounded_67 : decode b_Fr_rounded 67 = .ok (.land, 1) := by decide +kernel
theorem d_Fr_rounded_68 : decode b_Fr_rounded 68 = .ok (.lstore 6, 2) := by decide +kernel
theorem d_Fr_rounded_70 : decode b_Fr_rounded 70 = .ok (.aload_n 0, 1) := by decide +kernel
theorem d_Fr_rounded_71 : decode b_Fr_rounded 71 = .ok (.iconst 0, 1) := by decide +kernel
theorem d_Fr_rounded_72 : decode b_Fr_rounded 72 = .ok (.lload 4, 2) := by decide +kernel
theorem d_Fr_rounded_74 : decode b_Fr_rounded 74 = .ok (.lload 6, 2) := by decide +kernel
theorem d_Fr_rounded_76 : decode b_Fr_rounded 76 = .ok (.lconst 1, 1) := by decide +kernel
theorem d_Fr_rounded_77 : decode b_Fr_rounded 77 = .ok (.iload_n 3, 1) := by decide +kernel
theorem d_Fr_rounded_78 : decode b_Fr_rounded 78 = .ok (.iconst 1, 1) := by decide +kernel
theorem d_Fr_rounded_79 : decode b_Fr_rounded 79 = .ok (.isub, 1) := by decide +kernel
theorem d_Fr_rounded_80 : decode b_Fr_rounded 80 = .ok (.lshl, 1) := by decide +kernel
theorem d_Fr_rounded_81 : decode b_Fr_rounded 81 = .ok (.invokevirtual 56, 3) := by decide +kernel
theorem d_Fr_rounded_84 : decode b_Fr_rounded 84 = .ok (.ifCond .eq 9, 3) := by decide +kernel
theorem d_Fr_rounded_87 : decode b_Fr_rounded 87 = .ok (.lload 4, 2) := by decide +kernel
theorem d_Fr_rounded_89 : decode b_Fr_rounded 89 = .ok (.lconst 1, 1) := by decide +kernel
theorem d_Fr_rounded_90 : decode b_Fr_rounded 90 = .ok (.ladd, 1) := by decide +kernel
theorem d_Fr_rounded_91 : decode b_Fr_rounded 91 = .ok (.lstore 4, 2) := by decide +kernel
theorem d_Fr_rounded_93 : decode b_Fr_rounded 93 = .ok (.iload_n 2, 1) := by decide +kernel
theorem d_Fr_rounded_94 : decode b_Fr_rounded 94 = .ok (.iconst 0, 1) := by decide +kernel
theorem d_Fr_rounded_95 : decode b_Fr_rounded 95 = .ok (.invokestatic 60, 3) := by decide +kernel
theorem d_Fr_rounded_98 : decode b_Fr_rounded 98 = .ok (.i2l, 1) := by decide +kernel
theorem d_Fr_rounded_99 : decode b_Fr_rounded 99 = .ok (.iload_n 1, 1) := by decide +kernel
theorem d_Fr_rounded_100 : decode b_Fr_rounded 100 = .ok (.invokestatic 7, 3) := by decide +kernel
theorem d_Fr_rounded_103 : decode b_Fr_rounded 103 = .ok (.lshl, 1) := by decide +kernel
theorem d_Fr_rounded_104 : decode b_Fr_rounded 104 = .ok (.lload 4, 2) := by decide +kernel
theorem d_Fr_rounded_106 : decode b_Fr_rounded 106 = .ok (.ladd, 1) := by decide +kernel
theorem d_Fr_rounded_107 : decode b_Fr_rounded 107 = .ok (.lreturn, 1) := by decide +kernel
theorem d_Fr_pack_0 : decode b_Fr_pack 0 = .ok (.aload_n 0, 1) := by decide +kernel
theorem d_Fr_pack_1 : decode b_Fr_pack 1 = .ok (.getfield 13, 3) := by decide +kernel
theorem d_Fr_pack_4 : decode b_Fr_pack 4 = .ok (.ifCond .eq 19, 3) := by decide +kernel
theorem d_Fr_pack_7 : decode b_Fr_pack 7 = .ok (.lconst 1, 1) := by decide +kernel
theorem d_Fr_pack_8 : decode b_Fr_pack 8 = .ok (.iload_n 1, 1) := by decide +kernel
theorem d_Fr_pack_9 : decode b_Fr_pack 9 = .ok (.ifCond .eq 8, 3) := by decide +kernel
theorem d_Fr_pack_12 : decode b_Fr_pack 12 = .ok (.bipush 63, 2) := by decide +kernel
theorem d_Fr_pack_14 : decode b_Fr_pack 14 = .ok (.goto 5, 3) := by decide +kernel
theorem d_Fr_pack_17 : decode b_Fr_pack 17 = .ok (.bipush 31, 2) := by decide +kernel
theorem d_Fr_pack_19 : decode b_Fr_pack 19 = .ok (.lshl, 1) := by decide +kernel
theorem d_Fr_pack_20 : decode b_Fr_pack 20 = .ok (.goto 4, 3) := by decide +kernel
theorem d_Fr_pack_23 : decode b_Fr_pack 23 = .ok (.lconst 0, 1) := by decide +kernel
theorem d_Fr_pack_24 : decode b_Fr_pack 24 = .ok (.lstore_n 2, 1) := by decide +kernel
theorem d_Fr_pack_25 : decode b_Fr_pack 25 = .ok (.aload_n 0, 1) := by decide +kernel
theorem d_Fr_pack_26 : decode b_Fr_pack 26 = .ok (.getfield 17, 3) := by decide +kernel
theorem d_Fr_pack_29 : decode b_Fr_pack 29 = .ok (.tableswitch 44 0 2 #[27, 29, 37], 27) := by decide +kernel
theorem d_Fr_pack_56 : decode b_Fr_pack 56 = .ok (.lload_n 2, 1) := by decide +kernel
theorem d_Fr_pack_57 : decode b_Fr_pack 57 = .ok (.lreturn, 1) := by decide +kernel
theorem d_Fr_pack_58 : decode b_Fr_pack 58 = .ok (.lload_n 2, 1) := by decide +kernel
theorem d_Fr_pack_59 : decode b_Fr_pack 59 = .ok (.aload_n 0, 1) := by decide +kernel
theorem d_Fr_pack_60 : decode b_Fr_pack 60 = .ok (.iload_n 1, 1) := by decide +kernel
theorem d_Fr_pack_61 : decode b_Fr_pack 61 = .ok (.invokevirtual 41, 3) := by decide +kernel
theorem d_Fr_pack_64 : decode b_Fr_pack 64 = .ok (.lor, 1) := by decide +kernel
theorem d_Fr_pack_65 : decode b_Fr_pack 65 = .ok (.lreturn, 1) := by decide +kernel
theorem d_Fr_pack_66 : decode b_Fr_pack 66 = .ok (.lload_n 2, 1) := by decide +kernel
theorem d_Fr_pack_67 : decode b_Fr_pack 67 = .ok (.iload_n 1, 1) := by decide +kernel
theorem d_Fr_pack_68 : decode b_Fr_pack 68 = .ok (.invokestatic 45, 3) := by decide +kernel
theorem d_Fr_pack_71 : decode b_Fr_pack 71 = .ok (.lor, 1) := by decide +kernel
theorem d_Fr_pack_72 : decode b_Fr_pack 72 = .ok (.lreturn, 1) := by decide +kernel
theorem d_Fr_pack_73 : decode b_Fr_pack 73 = .ok (.iload_n 1, 1) := by decide +kernel
theorem d_Fr_pack_74 : decode b_Fr_pack 74 = .ok (.ifCond .eq 9, 3) := by decide +kernel
theorem d_Fr_pack_77 : decode b_Fr_pack 77 = .ok (.ldc2_w 48, 3) := by decide +kernel
theorem d_Fr_pack_80 : decode b_Fr_pack 80 = .ok (.goto 6, 3) := by decide +kernel
theorem d_Fr_pack_83 : decode b_Fr_pack 83 = .ok (.ldc2_w 50, 3) := by decide +kernel
theorem d_Fr_pack_86 : decode b_Fr_pack 86 = .ok (.lreturn, 1) := by decide +kernel
theorem d_Fr_toWord_0 : decode b_Fr_toWord 0 = .ok (.aload_n 0, 1) := by decide +kernel
theorem d_Fr_toWord_1 : decode b_Fr_toWord 1 = .ok (.getfield 17, 3) := by decide +kernel
theorem d_Fr_toWord_4 : decode b_Fr_toWord 4 = .ok (.ifCond .ne 5, 3) := by decide +kernel
theorem d_Fr_toWord_7 : decode b_Fr_toWord 7 = .ok (.iconst 0, 1) := by decide +kernel
theorem d_Fr_toWord_8 : decode b_Fr_toWord 8 = .ok (.ireturn, 1) := by decide +kernel
theorem d_Fr_toWord_9 : decode b_Fr_toWord 9 = .ok (.aload_n 0, 1) := by decide +kernel
theorem d_Fr_toWord_10 : decode b_Fr_toWord 10 = .ok (.getfield 17, 3) := by decide +kernel
theorem d_Fr_toWord_13 : decode b_Fr_toWord 13 = .ok (.iconst 1, 1) := by decide +kernel
theorem d_Fr_toWord_14 : decode b_Fr_toWord 14 = .ok (.if_icmp .ne 12, 3) := by decide +kernel
theorem d_Fr_toWord_17 : decode b_Fr_toWord 17 = .ok (.aload_n 0, 1) := by decide +kernel
theorem d_Fr_toWord_18 : decode b_Fr_toWord 18 = .ok (.getfield 38, 3) := by decide +kernel
theorem d_Fr_toWord_21 : decode b_Fr_toWord 21 = .ok (.bipush 31, 2) := by decide +kernel
theorem d_Fr_toWord_23 : decode b_Fr_toWord 23 = .ok (.if_icmp .le 6, 3) := by decide +kernel
theorem d_Fr_toWord_26 : decode b_Fr_toWord 26 = .ok (.ldc 63, 2) := by decide +kernel
theorem d_Fr_toWord_28 : decode b_Fr_toWord 28 = .ok (.ireturn, 1) := by decide +kernel
theorem d_Fr_toWord_29 : decode b_Fr_toWord 29 = .ok (.aload_n 0, 1) := by decide +kernel
theorem d_Fr_toWord_30 : decode b_Fr_toWord 30 = .ok (.getfield 38, 3) := by decide +kernel
theorem d_Fr_toWord_33 : decode b_Fr_toWord 33 = .ok (.iconst (-1), 1) := by decide +kernel
theorem d_Fr_toWord_34 : decode b_Fr_toWord 34 = .ok (.if_icmp .ge 7, 3) := by decide +kernel
theorem d_Fr_toWord_37 : decode b_Fr_toWord 37 = .ok (.iconst 1, 1) := by decide +kernel
theorem d_Fr_toWord_38 : decode b_Fr_toWord 38 = .ok (.goto 4, 3) := by decide +kernel
theorem d_Fr_toWord_41 : decode b_Fr_toWord 41 = .ok (.iconst 0, 1) := by decide +kernel
theorem d_Fr_toWord_42 : decode b_Fr_toWord 42 = .ok (.istore_n 2, 1) := by decide +kernel
theorem d_Fr_toWord_43 : decode b_Fr_toWord 43 = .ok (.iload_n 2, 1) := by decide +kernel
theorem d_Fr_toWord_44 : decode b_Fr_toWord 44 = .ok (.ifCond .eq 7, 3) := by decide +kernel
theorem d_Fr_toWord_47 : decode b_Fr_toWord 47 = .ok (.lconst 1, 1) := by decide +kernel
theorem d_Fr_toWord_48 : decode b_Fr_toWord 48 = .ok (.goto 7, 3) := by decide +kernel
theorem d_Fr_toWord_51 : decode b_Fr_toWord 51 = .ok (.aload_n 0, 1) := by decide +kernel
theorem d_Fr_toWord_52 : decode b_Fr_toWord 52 = .ok (.getfield 34, 3) := by decide +kernel
theorem d_Fr_toWord_55 : decode b_Fr_toWord 55 = .ok (.lstore_n 3, 1) := by decide +kernel
theorem d_Fr_toWord_56 : decode b_Fr_toWord 56 = .ok (.iload_n 2, 1) := by decide +kernel
theorem d_Fr_toWord_57 : decode b_Fr_toWord 57 = .ok (.ifCond .eq 8, 3) := by decide +kernel
theorem d_Fr_toWord_60 : decode b_Fr_toWord 60 = .ok (.bipush 63, 2) := by decide +kernel
theorem d_Fr_toWord_62 : decode b_Fr_toWord 62 = .ok (.goto 10, 3) := by decide +kernel
theorem d_Fr_toWord_65 : decode b_Fr_toWord 65 = .ok (.bipush 62, 2) := by decide +kernel
theorem d_Fr_toWord_67 : decode b_Fr_toWord 67 = .ok (.aload_n 0, 1) := by decide +kernel
theorem d_Fr_toWord_68 : decode b_Fr_toWord 68 = .ok (.getfield 38, 3) := by decide +kernel
theorem d_Fr_toWord_71 : decode b_Fr_toWord 71 = .ok (.isub, 1) := by decide +kernel
theorem d_Fr_toWord_72 : decode b_Fr_toWord 72 = .ok (.istore 5, 2) := by decide +kernel
theorem d_Fr_toWord_74 : decode b_Fr_toWord 74 = .ok (.lload_n 3, 1) := by decide +kernel
theorem d_Fr_toWord_75 : decode b_Fr_toWord 75 = .ok (.iload 5, 2) := by decide +kernel
theorem d_Fr_toWord_77 : decode b_Fr_toWord 77 = .ok (.lushr, 1) := by decide +kernel
theorem d_Fr_toWord_78 : decode b_Fr_toWord 78 = .ok (.lstore 6, 2) := by decide +kernel
theorem d_Fr_toWord_80 : decode b_Fr_toWord 80 = .ok (.lload_n 3, 1) := by decide +kernel
theorem d_Fr_toWord_81 : decode b_Fr_toWord 81 = .ok (.lconst 1, 1) := by decide +kernel
theorem d_Fr_toWord_82 : decode b_Fr_toWord 82 = .ok (.iload 5, 2) := by decide +kernel
theorem d_Fr_toWord_84 : decode b_Fr_toWord 84 = .ok (.lshl, 1) := by decide +kernel
theorem d_Fr_toWord_85 : decode b_Fr_toWord 85 = .ok (.lconst 1, 1) := by decide +kernel
theorem d_Fr_toWord_86 : decode b_Fr_toWord 86 = .ok (.lsub, 1) := by decide +kernel
theorem d_Fr_toWord_87 : decode b_Fr_toWord 87 = .ok (.land, 1) := by decide +kernel
theorem d_Fr_toWord_88 : decode b_Fr_toWord 88 = .ok (.lstore 8, 2) := by decide +kernel
theorem d_Fr_toWord_90 : decode b_Fr_toWord 90 = .ok (.aload_n 0, 1) := by decide +kernel
theorem d_Fr_toWord_91 : decode b_Fr_toWord 91 = .ok (.iload_n 1, 1) := by decide +kernel
theorem d_Fr_toWord_92 : decode b_Fr_toWord 92 = .ok (.lload 6, 2) := by decide +kernel
theorem d_Fr_toWord_94 : decode b_Fr_toWord 94 = .ok (.lload 8, 2) := by decide +kernel
theorem d_Fr_toWord_96 : decode b_Fr_toWord 96 = .ok (.lconst 1, 1) := by decide +kernel
theorem d_Fr_toWord_97 : decode b_Fr_toWord 97 = .ok (.iload 5, 2) := by decide +kernel
theorem d_Fr_toWord_99 : decode b_Fr_toWord 99 = .ok (.iconst 1, 1) := by decide +kernel
theorem d_Fr_toWord_100 : decode b_Fr_toWord 100 = .ok (.isub, 1) := by decide +kernel
theorem d_Fr_toWord_101 : decode b_Fr_toWord 101 = .ok (.lshl, 1) := by decide +kernel
theorem d_Fr_toWord_102 : decode b_Fr_toWord 102 = .ok (.invokevirtual 56, 3) := by decide +kernel
theorem d_Fr_toWord_105 : decode b_Fr_toWord 105 = .ok (.ifCond .eq 9, 3) := by decide +kernel
theorem d_Fr_toWord_108 : decode b_Fr_toWord 108 = .ok (.lload 6, 2) := by decide +kernel
theorem d_Fr_toWord_110 : decode b_Fr_toWord 110 = .ok (.lconst 1, 1) := by decide +kernel
theorem d_Fr_toWord_111 : decode b_Fr_toWord 111 = .ok (.ladd, 1) := by decide +kernel
theorem d_Fr_toWord_112 : decode b_Fr_toWord 112 = .ok (.lstore 6, 2) := by decide +kernel
theorem d_Fr_toWord_114 : decode b_Fr_toWord 114 = .ok (.aload_n 0, 1) := by decide +kernel
theorem d_Fr_toWord_115 : decode b_Fr_toWord 115 = .ok (.getfield 13, 3) := by decide +kernel
theorem d_Fr_toWord_118 : decode b_Fr_toWord 118 = .ok (.ifCond .eq 9, 3) := by decide +kernel
theorem d_Fr_toWord_121 : decode b_Fr_toWord 121 = .ok (.lload 6, 2) := by decide +kernel
theorem d_Fr_toWord_123 : decode b_Fr_toWord 123 = .ok (.lneg, 1) := by decide +kernel
theorem d_Fr_toWord_124 : decode b_Fr_toWord 124 = .ok (.goto 5, 3) := by decide +kernel
theorem d_Fr_toWord_127 : decode b_Fr_toWord 127 = .ok (.lload 6, 2) := by decide +kernel
theorem d_Fr_toWord_129 : decode b_Fr_toWord 129 = .ok (.lstore 10, 2) := by decide +kernel
theorem d_Fr_toWord_131 : decode b_Fr_toWord 131 = .ok (.lload 10, 2) := by decide +kernel
theorem d_Fr_toWord_133 : decode b_Fr_toWord 133 = .ok (.lload 10, 2) := by decide +kernel
theorem d_Fr_toWord_135 : decode b_Fr_toWord 135 = .ok (.l2i, 1) := by decide +kernel
theorem d_Fr_toWord_136 : decode b_Fr_toWord 136 = .ok (.i2l, 1) := by decide +kernel
theorem d_Fr_toWord_137 : decode b_Fr_toWord 137 = .ok (.lcmp, 1) := by decide +kernel
theorem d_Fr_toWord_138 : decode b_Fr_toWord 138 = .ok (.ifCond .ne 9, 3) := by decide +kernel
theorem d_Fr_toWord_141 : decode b_Fr_toWord 141 = .ok (.lload 10, 2) := by decide +kernel
theorem d_Fr_toWord_143 : decode b_Fr_toWord 143 = .ok (.l2i, 1) := by decide +kernel
theorem d_Fr_toWord_144 : decode b_Fr_toWord 144 = .ok (.goto 5, 3) := by decide +kernel
theorem d_Fr_toWord_147 : decode b_Fr_toWord 147 = .ok (.ldc 63, 2) := by decide +kernel
theorem d_Fr_toWord_149 : decode b_Fr_toWord 149 = .ok (.ireturn, 1) := by decide +kernel
theorem d_Fr_side_0 : decode b_Fr_side 0 = .ok (.aload_n 0, 1) := by decide +kernel
theorem d_Fr_side_1 : decode b_Fr_side 1 = .ok (.getfield 17, 3) := by decide +kernel
theorem d_Fr_side_4 : decode b_Fr_side 4 = .ok (.ifCond .ne 7, 3) := by decide +kernel
theorem d_Fr_side_7 : decode b_Fr_side 7 = .ok (.iconst 0, 1) := by decide +kernel
theorem d_Fr_side_8 : decode b_Fr_side 8 = .ok (.goto 15, 3) := by decide +kernel
theorem d_Fr_side_11 : decode b_Fr_side 11 = .ok (.aload_n 0, 1) := by decide +kernel
theorem d_Fr_side_12 : decode b_Fr_side 12 = .ok (.getfield 13, 3) := by decide +kernel
theorem d_Fr_side_15 : decode b_Fr_side 15 = .ok (.ifCond .eq 7, 3) := by decide +kernel
theorem d_Fr_side_18 : decode b_Fr_side 18 = .ok (.iconst (-1), 1) := by decide +kernel
theorem d_Fr_side_19 : decode b_Fr_side 19 = .ok (.goto 4, 3) := by decide +kernel
theorem d_Fr_side_22 : decode b_Fr_side 22 = .ok (.iconst 1, 1) := by decide +kernel
theorem d_Fr_side_23 : decode b_Fr_side 23 = .ok (.ireturn, 1) := by decide +kernel
theorem d_Fr_copy_0 : decode b_Fr_copy 0 = .ok (.aload_n 0, 1) := by decide +kernel
theorem d_Fr_copy_1 : decode b_Fr_copy 1 = .ok (.aload_n 1, 1) := by decide +kernel
theorem d_Fr_copy_2 : decode b_Fr_copy 2 = .ok (.getfield 13, 3) := by decide +kernel
theorem d_Fr_copy_5 : decode b_Fr_copy 5 = .ok (.putfield 13, 3) := by decide +kernel
theorem d_Fr_copy_8 : decode b_Fr_copy 8 = .ok (.aload_n 0, 1) := by decide +kernel
theorem d_Fr_copy_9 : decode b_Fr_copy 9 = .ok (.aload_n 1, 1) := by decide +kernel
theorem d_Fr_copy_10 : decode b_Fr_copy 10 = .ok (.getfield 17, 3) := by decide +kernel
theorem d_Fr_copy_13 : decode b_Fr_copy 13 = .ok (.putfield 17, 3) := by decide +kernel
theorem d_Fr_copy_16 : decode b_Fr_copy 16 = .ok (.aload_n 0, 1) := by decide +kernel
theorem d_Fr_copy_17 : decode b_Fr_copy 17 = .ok (.aload_n 1, 1) := by decide +kernel
theorem d_Fr_copy_18 : decode b_Fr_copy 18 = .ok (.getfield 38, 3) := by decide +kernel
theorem d_Fr_copy_21 : decode b_Fr_copy 21 = .ok (.putfield 38, 3) := by decide +kernel
theorem d_Fr_copy_24 : decode b_Fr_copy 24 = .ok (.aload_n 0, 1) := by decide +kernel
theorem d_Fr_copy_25 : decode b_Fr_copy 25 = .ok (.aload_n 1, 1) := by decide +kernel
theorem d_Fr_copy_26 : decode b_Fr_copy 26 = .ok (.getfield 34, 3) := by decide +kernel
theorem d_Fr_copy_29 : decode b_Fr_copy 29 = .ok (.putfield 34, 3) := by decide +kernel
theorem d_Fr_copy_32 : decode b_Fr_copy 32 = .ok (.return_, 1) := by decide +kernel
theorem d_Fr_addFinite_0 : decode b_Fr_addFinite 0 = .ok (.aload_n 0, 1) := by decide +kernel
theorem d_Fr_addFinite_1 : decode b_Fr_addFinite 1 = .ok (.getfield 38, 3) := by decide +kernel
theorem d_Fr_addFinite_4 : decode b_Fr_addFinite 4 = .ok (.aload_n 1, 1) := by decide +kernel
theorem d_Fr_addFinite_5 : decode b_Fr_addFinite 5 = .ok (.getfield 38, 3) := by decide +kernel
theorem d_Fr_addFinite_8 : decode b_Fr_addFinite 8 = .ok (.invokestatic 60, 3) := by decide +kernel
theorem d_Fr_addFinite_11 : decode b_Fr_addFinite 11 = .ok (.istore_n 2, 1) := by decide +kernel
theorem d_Fr_addFinite_12 : decode b_Fr_addFinite 12 = .ok (.aload_n 0, 1) := by decide +kernel
theorem d_Fr_addFinite_13 : decode b_Fr_addFinite 13 = .ok (.getfield 34, 3) := by decide +kernel
theorem d_Fr_addFinite_16 : decode b_Fr_addFinite 16 = .ok (.iconst 1, 1) := by decide +kernel
theorem d_Fr_addFinite_17 : decode b_Fr_addFinite 17 = .ok (.lushr, 1) := by decide +kernel
theorem d_Fr_addFinite_18 : decode b_Fr_addFinite 18 = .ok (.iload_n 2, 1) := by decide +kernel
theorem d_Fr_addFinite_19 : decode b_Fr_addFinite 19 = .ok (.aload_n 0, 1) := by decide +kernel
theorem d_Fr_addFinite_20 : decode b_Fr_addFinite 20 = .ok (.getfield 38, 3) := by decide +kernel
theorem d_Fr_addFinite_23 : decode b_Fr_addFinite 23 = .ok (.isub, 1) := by decide +kernel
theorem d_Fr_addFinite_24 : decode b_Fr_addFinite 24 = .ok (.invokestatic 71, 3) := by decide +kernel
theorem d_Fr_addFinite_27 : decode b_Fr_addFinite 27 = .ok (.lstore_n 3, 1) := by decide +kernel
theorem d_Fr_addFinite_28 : decode b_Fr_addFinite 28 = .ok (.aload_n 1, 1) := by decide +kernel
theorem d_Fr_addFinite_29 : decode b_Fr_addFinite 29 = .ok (.getfield 34, 3) := by decide +kernel
theorem d_Fr_addFinite_32 : decode b_Fr_addFinite 32 = .ok (.iconst 1, 1) := by decide +kernel
theorem d_Fr_addFinite_33 : decode b_Fr_addFinite 33 = .ok (.lushr, 1) := by decide +kernel
theorem d_Fr_addFinite_34 : decode b_Fr_addFinite 34 = .ok (.iload_n 2, 1) := by decide +kernel
theorem d_Fr_addFinite_35 : decode b_Fr_addFinite 35 = .ok (.aload_n 1, 1) := by decide +kernel
theorem d_Fr_addFinite_36 : decode b_Fr_addFinite 36 = .ok (.getfield 38, 3) := by decide +kernel
theorem d_Fr_addFinite_39 : decode b_Fr_addFinite 39 = .ok (.isub, 1) := by decide +kernel
theorem d_Fr_addFinite_40 : decode b_Fr_addFinite 40 = .ok (.invokestatic 71, 3) := by decide +kernel
theorem d_Fr_addFinite_43 : decode b_Fr_addFinite 43 = .ok (.lstore 5, 2) := by decide +kernel
theorem d_Fr_addFinite_45 : decode b_Fr_addFinite 45 = .ok (.aload_n 0, 1) := by decide +kernel
theorem d_Fr_addFinite_46 : decode b_Fr_addFinite 46 = .ok (.getfield 13, 3) := by decide +kernel
theorem d_Fr_addFinite_49 : decode b_Fr_addFinite 49 = .ok (.ifCond .eq 8, 3) := by decide +kernel
theorem d_Fr_addFinite_52 : decode b_Fr_addFinite 52 = .ok (.lload_n 3, 1) := by decide +kernel
theorem d_Fr_addFinite_53 : decode b_Fr_addFinite 53 = .ok (.lneg, 1) := by decide +kernel
theorem d_Fr_addFinite_54 : decode b_Fr_addFinite 54 = .ok (.goto 4, 3) := by decide +kernel
theorem d_Fr_addFinite_57 : decode b_Fr_addFinite 57 = .ok (.lload_n 3, 1) := by decide +kernel
theorem d_Fr_addFinite_58 : decode b_Fr_addFinite 58 = .ok (.aload_n 1, 1) := by decide +kernel
theorem d_Fr_addFinite_59 : decode b_Fr_addFinite 59 = .ok (.getfield 13, 3) := by decide +kernel
theorem d_Fr_addFinite_62 : decode b_Fr_addFinite 62 = .ok (.ifCond .eq 9, 3) := by decide +kernel
theorem d_Fr_addFinite_65 : decode b_Fr_addFinite 65 = .ok (.lload 5, 2) := by decide +kernel
theorem d_Fr_addFinite_67 : decode b_Fr_addFinite 67 = .ok (.lneg, 1) := by decide +kernel
theorem d_Fr_addFinite_68 : decode b_Fr_addFinite 68 = .ok (.goto 5, 3) := by decide +kernel
theorem d_Fr_addFinite_71 : decode b_Fr_addFinite 71 = .ok (.lload 5, 2) := by decide +kernel
theorem d_Fr_addFinite_73 : decode b_Fr_addFinite 73 = .ok (.ladd, 1) := by decide +kernel
theorem d_Fr_addFinite_74 : decode b_Fr_addFinite 74 = .ok (.lstore 7, 2) := by decide +kernel
theorem d_Fr_addFinite_76 : decode b_Fr_addFinite 76 = .ok (.aload_n 0, 1) := by decide +kernel
theorem d_Fr_addFinite_77 : decode b_Fr_addFinite 77 = .ok (.lload 7, 2) := by decide +kernel
theorem d_Fr_addFinite_79 : decode b_Fr_addFinite 79 = .ok (.lconst 0, 1) := by decide +kernel
theorem d_Fr_addFinite_80 : decode b_Fr_addFinite 80 = .ok (.lcmp, 1) := by decide +kernel
theorem d_Fr_addFinite_81 : decode b_Fr_addFinite 81 = .ok (.ifCond .ge 7, 3) := by decide +kernel
theorem d_Fr_addFinite_84 : decode b_Fr_addFinite 84 = .ok (.iconst 1, 1) := by decide +kernel
theorem d_Fr_addFinite_85 : decode b_Fr_addFinite 85 = .ok (.goto 4, 3) := by decide +kernel
theorem d_Fr_addFinite_88 : decode b_Fr_addFinite 88 = .ok (.iconst 0, 1) := by decide +kernel
theorem d_Fr_addFinite_89 : decode b_Fr_addFinite 89 = .ok (.putfield 13, 3) := by decide +kernel
theorem d_Fr_addFinite_92 : decode b_Fr_addFinite 92 = .ok (.aload_n 0, 1) := by decide +kernel
theorem d_Fr_addFinite_93 : decode b_Fr_addFinite 93 = .ok (.lload 7, 2) := by decide +kernel
theorem d_Fr_addFinite_95 : decode b_Fr_addFinite 95 = .ok (.invokestatic 28, 3) := by decide +kernel
theorem d_Fr_addFinite_98 : decode b_Fr_addFinite 98 = .ok (.iload_n 2, 1) := by decide +kernel
theorem d_Fr_addFinite_99 : decode b_Fr_addFinite 99 = .ok (.iconst 1, 1) := by decide +kernel
theorem d_Fr_addFinite_100 : decode b_Fr_addFinite 100 = .ok (.iadd, 1) := by decide +kernel
theorem d_Fr_addFinite_101 : decode b_Fr_addFinite 101 = .ok (.invokevirtual 24, 3) := by decide +kernel
theorem d_Fr_addFinite_104 : decode b_Fr_addFinite 104 = .ok (.return_, 1) := by decide +kernel
theorem d_Fr_add_0 : decode b_Fr_add 0 = .ok (.aload_n 0, 1) := by decide +kernel
theorem d_Fr_add_1 : decode b_Fr_add 1 = .ok (.getfield 17, 3) := by decide +kernel
theorem d_Fr_add_4 : decode b_Fr_add 4 = .ok (.iconst 1, 1) := by decide +kernel
theorem d_Fr_add_5 : decode b_Fr_add 5 = .ok (.if_icmp .ne 19, 3) := by decide +kernel
theorem d_Fr_add_8 : decode b_Fr_add 8 = .ok (.aload_n 1, 1) := by decide +kernel
theorem d_Fr_add_9 : decode b_Fr_add 9 = .ok (.getfield 17, 3) := by decide +kernel
theorem d_Fr_add_12 : decode b_Fr_add 12 = .ok (.iconst 1, 1) := by decide +kernel
theorem d_Fr_add_13 : decode b_Fr_add 13 = .ok (.if_icmp .ne 11, 3) := by decide +kernel
theorem d_Fr_add_16 : decode b_Fr_add 16 = .ok (.aload_n 0, 1) := by decide +kernel
theorem d_Fr_add_17 : decode b_Fr_add 17 = .ok (.aload_n 1, 1) := by decide +kernel
theorem d_Fr_add_18 : decode b_Fr_add 18 = .ok (.invokevirtual 64, 3) := by decide +kernel
theorem d_Fr_add_21 : decode b_Fr_add 21 = .ok (.goto 98, 3) := by decide +kernel
theorem d_Fr_add_24 : decode b_Fr_add 24 = .ok (.aload_n 0, 1) := by decide +kernel
theorem d_Fr_add_25 : decode b_Fr_add 25 = .ok (.getfield 17, 3) := by decide +kernel
theorem d_Fr_add_28 : decode b_Fr_add 28 = .ok (.ifCond .ne 36, 3) := by decide +kernel
theorem d_Fr_add_31 : decode b_Fr_add 31 = .ok (.aload_n 1, 1) := by decide +kernel
theorem d_Fr_add_32 : decode b_Fr_add 32 = .ok (.getfield 17, 3) := by decide +kernel
theorem d_Fr_add_35 : decode b_Fr_add 35 = .ok (.ifCond .ne 29, 3) := by decide +kernel
theorem d_Fr_add_38 : decode b_Fr_add 38 = .ok (.aload_n 0, 1) := by decide +kernel
theorem d_Fr_add_39 : decode b_Fr_add 39 = .ok (.aload_n 0, 1) := by decide +kernel
theorem d_Fr_add_40 : decode b_Fr_add 40 = .ok (.getfield 13, 3) := by decide +kernel
theorem d_Fr_add_43 : decode b_Fr_add 43 = .ok (.ifCond .eq 14, 3) := by decide +kernel
theorem d_Fr_add_46 : decode b_Fr_add 46 = .ok (.aload_n 1, 1) := by decide +kernel
theorem d_Fr_add_47 : decode b_Fr_add 47 = .ok (.getfield 13, 3) := by decide +kernel
theorem d_Fr_add_50 : decode b_Fr_add 50 = .ok (.ifCond .eq 7, 3) := by decide +kernel
theorem d_Fr_add_53 : decode b_Fr_add 53 = .ok (.iconst 1, 1) := by decide +kernel
theorem d_Fr_add_54 : decode b_Fr_add 54 = .ok (.goto 4, 3) := by decide +kernel
theorem d_Fr_add_57 : decode b_Fr_add 57 = .ok (.iconst 0, 1) := by decide +kernel
theorem d_Fr_add_58 : decode b_Fr_add 58 = .ok (.putfield 13, 3) := by decide +kernel
theorem d_Fr_add_61 : decode b_Fr_add 61 = .ok (.goto 58, 3) := by decide +kernel
theorem d_Fr_add_64 : decode b_Fr_add 64 = .ok (.aload_n 0, 1) := by decide +kernel
theorem d_Fr_add_65 : decode b_Fr_add 65 = .ok (.getfield 17, 3) := by decide +kernel
theorem d_Fr_add_68 : decode b_Fr_add 68 = .ok (.iconst 2, 1) := by decide +kernel
theorem d_Fr_add_69 : decode b_Fr_add 69 = .ok (.if_icmp .ne 34, 3) := by decide +kernel
theorem d_Fr_add_72 : decode b_Fr_add 72 = .ok (.aload_n 1, 1) := by decide +kernel
theorem d_Fr_add_73 : decode b_Fr_add 73 = .ok (.getfield 17, 3) := by decide +kernel
theorem d_Fr_add_76 : decode b_Fr_add 76 = .ok (.iconst 2, 1) := by decide +kernel
theorem d_Fr_add_77 : decode b_Fr_add 77 = .ok (.if_icmp .ne 26, 3) := by decide +kernel
theorem d_Fr_add_80 : decode b_Fr_add 80 = .ok (.aload_n 0, 1) := by decide +kernel
theorem d_Fr_add_81 : decode b_Fr_add 81 = .ok (.aload_n 0, 1) := by decide +kernel
theorem d_Fr_add_82 : decode b_Fr_add 82 = .ok (.getfield 13, 3) := by decide +kernel
theorem d_Fr_add_85 : decode b_Fr_add 85 = .ok (.aload_n 1, 1) := by decide +kernel
theorem d_Fr_add_86 : decode b_Fr_add 86 = .ok (.getfield 13, 3) := by decide +kernel
theorem d_Fr_add_89 : decode b_Fr_add 89 = .ok (.if_icmp .ne 7, 3) := by decide +kernel
theorem d_Fr_add_92 : decode b_Fr_add 92 = .ok (.iconst 2, 1) := by decide +kernel
theorem d_Fr_add_93 : decode b_Fr_add 93 = .ok (.goto 4, 3) := by decide +kernel
theorem d_Fr_add_96 : decode b_Fr_add 96 = .ok (.iconst 3, 1) := by decide +kernel
theorem d_Fr_add_97 : decode b_Fr_add 97 = .ok (.putfield 17, 3) := by decide +kernel
theorem d_Fr_add_100 : decode b_Fr_add 100 = .ok (.goto 19, 3) := by decide +kernel
theorem d_Fr_add_103 : decode b_Fr_add 103 = .ok (.aload_n 1, 1) := by decide +kernel
theorem d_Fr_add_104 : decode b_Fr_add 104 = .ok (.getfield 17, 3) := by decide +kernel
theorem d_Fr_add_107 : decode b_Fr_add 107 = .ok (.aload_n 0, 1) := by decide +kernel
theorem d_Fr_add_108 : decode b_Fr_add 108 = .ok (.getfield 17, 3) := by decide +kernel
theorem d_Fr_add_111 : decode b_Fr_add 111 = .ok (.if_icmp .le 8, 3) := by decide +kernel
theorem d_Fr_add_114 : decode b_Fr_add 114 = .ok (.aload_n 0, 1) := by decide +kernel
theorem d_Fr_add_115 : decode b_Fr_add 115 = .ok (.aload_n 1, 1) := by decide +kernel
theorem d_Fr_add_116 : decode b_Fr_add 116 = .ok (.invokevirtual 68, 3) := by decide +kernel
theorem d_Fr_add_119 : decode b_Fr_add 119 = .ok (.return_, 1) := by decide +kernel
theorem d_Fr_multiply_0 : decode b_Fr_multiply 0 = .ok (.aload_n 0, 1) := by decide +kernel
theorem d_Fr_multiply_1 : decode b_Fr_multiply 1 = .ok (.aload_n 0, 1) := by decide +kernel
theorem d_Fr_multiply_2 : decode b_Fr_multiply 2 = .ok (.getfield 13, 3) := by decide +kernel
theorem d_Fr_multiply_5 : decode b_Fr_multiply 5 = .ok (.aload_n 1, 1) := by decide +kernel
theorem d_Fr_multiply_6 : decode b_Fr_multiply 6 = .ok (.getfield 13, 3) := by decide +kernel
theorem d_Fr_multiply_9 : decode b_Fr_multiply 9 = .ok (.if_icmp .eq 7, 3) := by decide +kernel
theorem d_Fr_multiply_12 : decode b_Fr_multiply 12 = .ok (.iconst 1, 1) := by decide +kernel
theorem d_Fr_multiply_13 : decode b_Fr_multiply 13 = .ok (.goto 4, 3) := by decide +kernel
theorem d_Fr_multiply_16 : decode b_Fr_multiply 16 = .ok (.iconst 0, 1) := by decide +kernel
theorem d_Fr_multiply_17 : decode b_Fr_multiply 17 = .ok (.putfield 13, 3) := by decide +kernel
theorem d_Fr_multiply_20 : decode b_Fr_multiply 20 = .ok (.aload_n 0, 1) := by decide +kernel
theorem d_Fr_multiply_21 : decode b_Fr_multiply 21 = .ok (.getfield 17, 3) := by decide +kernel
theorem d_Fr_multiply_24 : decode b_Fr_multiply 24 = .ok (.iconst 1, 1) := by decide +kernel
theorem d_Fr_multiply_25 : decode b_Fr_multiply 25 = .ok (.if_icmp .ne 26, 3) := by decide +kernel
theorem d_Fr_multiply_28 : decode b_Fr_multiply 28 = .ok (.aload_n 1, 1) := by decide +kernel
theorem d_Fr_multiply_29 : decode b_Fr_multiply 29 = .ok (.getfield 17, 3) := by decide +kernel
theorem d_Fr_multiply_32 : decode b_Fr_multiply 32 = .ok (.iconst 1, 1) := by decide +kernel
theorem d_Fr_multiply_33 : decode b_Fr_multiply 33 = .ok (.if_icmp .ne 18, 3) := by decide +kernel
theorem d_Fr_multiply_36 : decode b_Fr_multiply 36 = .ok (.aload_n 0, 1) := by decide +kernel
theorem d_Fr_multiply_37 : decode b_Fr_multiply 37 = .ok (.aload_n 1, 1) := by decide +kernel
theorem d_Fr_multiply_38 : decode b_Fr_multiply 38 = .ok (.getfield 34, 3) := by decide +kernel
theorem d_Fr_multiply_41 : decode b_Fr_multiply 41 = .ok (.aload_n 1, 1) := by decide +kernel
theorem d_Fr_multiply_42 : decode b_Fr_multiply 42 = .ok (.getfield 38, 3) := by decide +kernel
theorem d_Fr_multiply_45 : decode b_Fr_multiply 45 = .ok (.invokevirtual 75, 3) := by decide +kernel
theorem d_Fr_multiply_48 : decode b_Fr_multiply 48 = .ok (.goto 97, 3) := by decide +kernel
theorem d_Fr_multiply_51 : decode b_Fr_multiply 51 = .ok (.aload_n 0, 1) := by decide +kernel
theorem d_Fr_multiply_52 : decode b_Fr_multiply 52 = .ok (.getfield 17, 3) := by decide +kernel
theorem d_Fr_multiply_55 : decode b_Fr_multiply 55 = .ok (.ifCond .ne 11, 3) := by decide +kernel
theorem d_Fr_multiply_58 : decode b_Fr_multiply 58 = .ok (.aload_n 1, 1) := by decide +kernel
theorem d_Fr_multiply_59 : decode b_Fr_multiply 59 = .ok (.getfield 17, 3) := by decide +kernel
theorem d_Fr_multiply_62 : decode b_Fr_multiply 62 = .ok (.iconst 2, 1) := by decide +kernel
theorem d_Fr_multiply_63 : decode b_Fr_multiply 63 = .ok (.if_icmp .eq 18, 3) := by decide +kernel
theorem d_Fr_multiply_66 : decode b_Fr_multiply 66 = .ok (.aload_n 0, 1) := by decide +kernel
theorem d_Fr_multiply_67 : decode b_Fr_multiply 67 = .ok (.getfield 17, 3) := by decide +kernel
theorem d_Fr_multiply_70 : decode b_Fr_multiply 70 = .ok (.iconst 2, 1) := by decide +kernel
theorem d_Fr_multiply_71 : decode b_Fr_multiply 71 = .ok (.if_icmp .ne 18, 3) := by decide +kernel
theorem d_Fr_multiply_74 : decode b_Fr_multiply 74 = .ok (.aload_n 1, 1) := by decide +kernel
theorem d_Fr_multiply_75 : decode b_Fr_multiply 75 = .ok (.getfield 17, 3) := by decide +kernel
theorem d_Fr_multiply_78 : decode b_Fr_multiply 78 = .ok (.ifCond .ne 11, 3) := by decide +kernel
theorem d_Fr_multiply_81 : decode b_Fr_multiply 81 = .ok (.aload_n 0, 1) := by decide +kernel
theorem d_Fr_multiply_82 : decode b_Fr_multiply 82 = .ok (.iconst 3, 1) := by decide +kernel
theorem d_Fr_multiply_83 : decode b_Fr_multiply 83 = .ok (.putfield 17, 3) := by decide +kernel
theorem d_Fr_multiply_86 : decode b_Fr_multiply 86 = .ok (.goto 59, 3) := by decide +kernel
theorem d_Fr_multiply_89 : decode b_Fr_multiply 89 = .ok (.aload_n 0, 1) := by decide +kernel
theorem d_Fr_multiply_90 : decode b_Fr_multiply 90 = .ok (.getfield 17, 3) := by decide +kernel
theorem d_Fr_multiply_93 : decode b_Fr_multiply 93 = .ok (.ifCond .eq 10, 3) := by decide +kernel
theorem d_Fr_multiply_96 : decode b_Fr_multiply 96 = .ok (.aload_n 1, 1) := by decide +kernel
theorem d_Fr_multiply_97 : decode b_Fr_multiply 97 = .ok (.getfield 17, 3) := by decide +kernel
theorem d_Fr_multiply_100 : decode b_Fr_multiply 100 = .ok (.ifCond .ne 30, 3) := by decide +kernel
theorem d_Fr_multiply_103 : decode b_Fr_multiply 103 = .ok (.aload_n 0, 1) := by decide +kernel
theorem d_Fr_multiply_104 : decode b_Fr_multiply 104 = .ok (.aload_n 0, 1) := by decide +kernel
theorem d_Fr_multiply_105 : decode b_Fr_multiply 105 = .ok (.getfield 17, 3) := by decide +kernel
theorem d_Fr_multiply_108 : decode b_Fr_multiply 108 = .ok (.aload_n 1, 1) := by decide +kernel
theorem d_Fr_multiply_109 : decode b_Fr_multiply 109 = .ok (.getfield 17, 3) := by decide +kernel
theorem d_Fr_multiply_112 : decode b_Fr_multiply 112 = .ok (.invokestatic 60, 3) := by decide +kernel
theorem d_Fr_multiply_115 : decode b_Fr_multiply 115 = .ok (.iconst 3, 1) := by decide +kernel
theorem d_Fr_multiply_116 : decode b_Fr_multiply 116 = .ok (.if_icmp .ne 7, 3) := by decide +kernel
theorem d_Fr_multiply_119 : decode b_Fr_multiply 119 = .ok (.iconst 3, 1) := by decide +kernel
theorem d_Fr_multiply_120 : decode b_Fr_multiply 120 = .ok (.goto 4, 3) := by decide +kernel
theorem d_Fr_multiply_123 : decode b_Fr_multiply 123 = .ok (.iconst 0, 1) := by decide +kernel
theorem d_Fr_multiply_124 : decode b_Fr_multiply 124 = .ok (.putfield 17, 3) := by decide +kernel
theorem d_Fr_multiply_127 : decode b_Fr_multiply 127 = .ok (.goto 18, 3) := by decide +kernel
theorem d_Fr_multiply_130 : decode b_Fr_multiply 130 = .ok (.aload_n 0, 1) := by decide +kernel
theorem d_Fr_multiply_131 : decode b_Fr_multiply 131 = .ok (.aload_n 0, 1) := by decide +kernel
theorem d_Fr_multiply_132 : decode b_Fr_multiply 132 = .ok (.getfield 17, 3) := by decide +kernel
theorem d_Fr_multiply_135 : decode b_Fr_multiply 135 = .ok (.aload_n 1, 1) := by decide +kernel
theorem d_Fr_multiply_136 : decode b_Fr_multiply 136 = .ok (.getfield 17, 3) := by decide +kernel
theorem d_Fr_multiply_139 : decode b_Fr_multiply 139 = .ok (.invokestatic 60, 3) := by decide +kernel
theorem d_Fr_multiply_142 : decode b_Fr_multiply 142 = .ok (.putfield 17, 3) := by decide +kernel
theorem d_Fr_multiply_145 : decode b_Fr_multiply 145 = .ok (.return_, 1) := by decide +kernel
theorem d_Fr_divide_0 : decode b_Fr_divide 0 = .ok (.aload_n 0, 1) := by decide +kernel
theorem d_Fr_divide_1 : decode b_Fr_divide 1 = .ok (.aload_n 0, 1) := by decide +kernel
