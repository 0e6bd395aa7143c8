theorem d_Fr_divide_2 : decode b_Fr_divide 2 = .ok (.getfield 13, 3) := by decide +kernel
theorem d_Fr_divide_5 : decode b_Fr_divide 5 = .ok (.aload_n 1, 1) := by decide +kernel
theorem d_Fr_divide_6 : decode b_Fr_divide 6 = .ok (.getfield 13, 3) := by decide +kernel
theorem d_Fr_divide_9 : decode b_Fr_divide 9 = .ok (.if_icmp .eq 7, 3) := by decide +kernel
theorem d_Fr_divide_12 : decode b_Fr_divide 12 = .ok (.iconst 1, 1) := by decide +kernel
theorem d_Fr_divide_13 : decode b_Fr_divide 13 = .ok (.goto 4, 3) := by decide +kernel
theorem d_Fr_divide_16 : decode b_Fr_divide 16 = .ok (.iconst 0, 1) := by decide +kernel
theorem d_Fr_divide_17 : decode b_Fr_divide 17 = .ok (.putfield 13, 3) := by decide +kernel
theorem d_Fr_divide_20 : decode b_Fr_divide 20 = .ok (.aload_n 0, 1) := by decide +kernel
theorem d_Fr_divide_21 : decode b_Fr_divide 21 = .ok (.getfield 17, 3) := by decide +kernel
theorem d_Fr_divide_24 : decode b_Fr_divide 24 = .ok (.iconst 1, 1) := by decide +kernel
theorem d_Fr_divide_25 : decode b_Fr_divide 25 = .ok (.if_icmp .ne 29, 3) := by decide +kernel
theorem d_Fr_divide_28 : decode b_Fr_divide 28 = .ok (.aload_n 1, 1) := by decide +kernel
theorem d_Fr_divide_29 : decode b_Fr_divide 29 = .ok (.getfield 17, 3) := by decide +kernel
theorem d_Fr_divide_32 : decode b_Fr_divide 32 = .ok (.iconst 1, 1) := by decide +kernel
theorem d_Fr_divide_33 : decode b_Fr_divide 33 = .ok (.if_icmp .ne 21, 3) := by decide +kernel
theorem d_Fr_divide_36 : decode b_Fr_divide 36 = .ok (.aload_n 0, 1) := by decide +kernel
theorem d_Fr_divide_37 : decode b_Fr_divide 37 = .ok (.aload_n 1, 1) := by decide +kernel
theorem d_Fr_divide_38 : decode b_Fr_divide 38 = .ok (.getfield 34, 3) := by decide +kernel
theorem d_Fr_divide_41 : decode b_Fr_divide 41 = .ok (.bipush 10, 2) := by decide +kernel
theorem d_Fr_divide_43 : decode b_Fr_divide 43 = .ok (.lushr, 1) := by decide +kernel
theorem d_Fr_divide_44 : decode b_Fr_divide 44 = .ok (.aload_n 1, 1) := by decide +kernel
theorem d_Fr_divide_45 : decode b_Fr_divide 45 = .ok (.getfield 38, 3) := by decide +kernel
theorem d_Fr_divide_48 : decode b_Fr_divide 48 = .ok (.invokevirtual 80, 3) := by decide +kernel
theorem d_Fr_divide_51 : decode b_Fr_divide 51 = .ok (.goto 66, 3) := by decide +kernel
theorem d_Fr_divide_54 : decode b_Fr_divide 54 = .ok (.aload_n 0, 1) := by decide +kernel
theorem d_Fr_divide_55 : decode b_Fr_divide 55 = .ok (.getfield 17, 3) := by decide +kernel
theorem d_Fr_divide_58 : decode b_Fr_divide 58 = .ok (.iconst 3, 1) := by decide +kernel
theorem d_Fr_divide_59 : decode b_Fr_divide 59 = .ok (.if_icmp .eq 22, 3) := by decide +kernel
theorem d_Fr_divide_62 : decode b_Fr_divide 62 = .ok (.aload_n 1, 1) := by decide +kernel
theorem d_Fr_divide_63 : decode b_Fr_divide 63 = .ok (.getfield 17, 3) := by decide +kernel
theorem d_Fr_divide_66 : decode b_Fr_divide 66 = .ok (.iconst 3, 1) := by decide +kernel
theorem d_Fr_divide_67 : decode b_Fr_divide 67 = .ok (.if_icmp .eq 14, 3) := by decide +kernel
theorem d_Fr_divide_70 : decode b_Fr_divide 70 = .ok (.aload_n 0, 1) := by decide +kernel
theorem d_Fr_divide_71 : decode b_Fr_divide 71 = .ok (.getfield 17, 3) := by decide +kernel
theorem d_Fr_divide_74 : decode b_Fr_divide 74 = .ok (.aload_n 1, 1) := by decide +kernel
theorem d_Fr_divide_75 : decode b_Fr_divide 75 = .ok (.getfield 17, 3) := by decide +kernel
theorem d_Fr_divide_78 : decode b_Fr_divide 78 = .ok (.if_icmp .ne 11, 3) := by decide +kernel
theorem d_Fr_divide_81 : decode b_Fr_divide 81 = .ok (.aload_n 0, 1) := by decide +kernel
theorem d_Fr_divide_82 : decode b_Fr_divide 82 = .ok (.iconst 3, 1) := by decide +kernel
theorem d_Fr_divide_83 : decode b_Fr_divide 83 = .ok (.putfield 17, 3) := by decide +kernel
theorem d_Fr_divide_86 : decode b_Fr_divide 86 = .ok (.goto 31, 3) := by decide +kernel
theorem d_Fr_divide_89 : decode b_Fr_divide 89 = .ok (.aload_n 0, 1) := by decide +kernel
theorem d_Fr_divide_90 : decode b_Fr_divide 90 = .ok (.getfield 17, 3) := by decide +kernel
theorem d_Fr_divide_93 : decode b_Fr_divide 93 = .ok (.iconst 2, 1) := by decide +kernel
theorem d_Fr_divide_94 : decode b_Fr_divide 94 = .ok (.if_icmp .eq 10, 3) := by decide +kernel
theorem d_Fr_divide_97 : decode b_Fr_divide 97 = .ok (.aload_n 1, 1) := by decide +kernel
theorem d_Fr_divide_98 : decode b_Fr_divide 98 = .ok (.getfield 17, 3) := by decide +kernel
theorem d_Fr_divide_101 : decode b_Fr_divide 101 = .ok (.ifCond .ne 11, 3) := by decide +kernel
theorem d_Fr_divide_104 : decode b_Fr_divide 104 = .ok (.aload_n 0, 1) := by decide +kernel
theorem d_Fr_divide_105 : decode b_Fr_divide 105 = .ok (.iconst 2, 1) := by decide +kernel
theorem d_Fr_divide_106 : decode b_Fr_divide 106 = .ok (.putfield 17, 3) := by decide +kernel
theorem d_Fr_divide_109 : decode b_Fr_divide 109 = .ok (.goto 8, 3) := by decide +kernel
theorem d_Fr_divide_112 : decode b_Fr_divide 112 = .ok (.aload_n 0, 1) := by decide +kernel
theorem d_Fr_divide_113 : decode b_Fr_divide 113 = .ok (.iconst 0, 1) := by decide +kernel
theorem d_Fr_divide_114 : decode b_Fr_divide 114 = .ok (.putfield 17, 3) := by decide +kernel
theorem d_Fr_divide_117 : decode b_Fr_divide 117 = .ok (.return_, 1) := by decide +kernel
theorem d_JL_compare_0 : decode b_JL_compare 0 = .ok (.lload_n 0, 1) := by decide +kernel
theorem d_JL_compare_1 : decode b_JL_compare 1 = .ok (.lload_n 2, 1) := by decide +kernel
theorem d_JL_compare_2 : decode b_JL_compare 2 = .ok (.lcmp, 1) := by decide +kernel
theorem d_JL_compare_3 : decode b_JL_compare 3 = .ok (.ifCond .ge 7, 3) := by decide +kernel
theorem d_JL_compare_6 : decode b_JL_compare 6 = .ok (.iconst (-1), 1) := by decide +kernel
theorem d_JL_compare_7 : decode b_JL_compare 7 = .ok (.goto 14, 3) := by decide +kernel
theorem d_JL_compare_10 : decode b_JL_compare 10 = .ok (.lload_n 0, 1) := by decide +kernel
theorem d_JL_compare_11 : decode b_JL_compare 11 = .ok (.lload_n 2, 1) := by decide +kernel
theorem d_JL_compare_12 : decode b_JL_compare 12 = .ok (.lcmp, 1) := by decide +kernel
theorem d_JL_compare_13 : decode b_JL_compare 13 = .ok (.ifCond .ne 7, 3) := by decide +kernel
theorem d_JL_compare_16 : decode b_JL_compare 16 = .ok (.iconst 0, 1) := by decide +kernel
theorem d_JL_compare_17 : decode b_JL_compare 17 = .ok (.goto 4, 3) := by decide +kernel
theorem d_JL_compare_20 : decode b_JL_compare 20 = .ok (.iconst 1, 1) := by decide +kernel
theorem d_JL_compare_21 : decode b_JL_compare 21 = .ok (.ireturn, 1) := by decide +kernel
theorem d_Fr_compareSize_0 : decode b_Fr_compareSize 0 = .ok (.aload_n 0, 1) := by decide +kernel
theorem d_Fr_compareSize_1 : decode b_Fr_compareSize 1 = .ok (.getfield 17, 3) := by decide +kernel
theorem d_Fr_compareSize_4 : decode b_Fr_compareSize 4 = .ok (.iconst 1, 1) := by decide +kernel
theorem d_Fr_compareSize_5 : decode b_Fr_compareSize 5 = .ok (.if_icmp .ne 11, 3) := by decide +kernel
theorem d_Fr_compareSize_8 : decode b_Fr_compareSize 8 = .ok (.aload_n 1, 1) := by decide +kernel
theorem d_Fr_compareSize_9 : decode b_Fr_compareSize 9 = .ok (.getfield 17, 3) := by decide +kernel
theorem d_Fr_compareSize_12 : decode b_Fr_compareSize 12 = .ok (.iconst 1, 1) := by decide +kernel
theorem d_Fr_compareSize_13 : decode b_Fr_compareSize 13 = .ok (.if_icmp .eq 13, 3) := by decide +kernel
theorem d_Fr_compareSize_16 : decode b_Fr_compareSize 16 = .ok (.aload_n 0, 1) := by decide +kernel
theorem d_Fr_compareSize_17 : decode b_Fr_compareSize 17 = .ok (.getfield 17, 3) := by decide +kernel
theorem d_Fr_compareSize_20 : decode b_Fr_compareSize 20 = .ok (.aload_n 1, 1) := by decide +kernel
theorem d_Fr_compareSize_21 : decode b_Fr_compareSize 21 = .ok (.getfield 17, 3) := by decide +kernel
theorem d_Fr_compareSize_24 : decode b_Fr_compareSize 24 = .ok (.isub, 1) := by decide +kernel
theorem d_Fr_compareSize_25 : decode b_Fr_compareSize 25 = .ok (.ireturn, 1) := by decide +kernel
theorem d_Fr_compareSize_26 : decode b_Fr_compareSize 26 = .ok (.aload_n 0, 1) := by decide +kernel
theorem d_Fr_compareSize_27 : decode b_Fr_compareSize 27 = .ok (.getfield 38, 3) := by decide +kernel
theorem d_Fr_compareSize_30 : decode b_Fr_compareSize 30 = .ok (.aload_n 1, 1) := by decide +kernel
theorem d_Fr_compareSize_31 : decode b_Fr_compareSize 31 = .ok (.getfield 38, 3) := by decide +kernel
theorem d_Fr_compareSize_34 : decode b_Fr_compareSize 34 = .ok (.if_icmp .eq 13, 3) := by decide +kernel
theorem d_Fr_compareSize_37 : decode b_Fr_compareSize 37 = .ok (.aload_n 0, 1) := by decide +kernel
theorem d_Fr_compareSize_38 : decode b_Fr_compareSize 38 = .ok (.getfield 38, 3) := by decide +kernel
theorem d_Fr_compareSize_41 : decode b_Fr_compareSize 41 = .ok (.aload_n 1, 1) := by decide +kernel
theorem d_Fr_compareSize_42 : decode b_Fr_compareSize 42 = .ok (.getfield 38, 3) := by decide +kernel
theorem d_Fr_compareSize_45 : decode b_Fr_compareSize 45 = .ok (.isub, 1) := by decide +kernel
theorem d_Fr_compareSize_46 : decode b_Fr_compareSize 46 = .ok (.ireturn, 1) := by decide +kernel
theorem d_Fr_compareSize_47 : decode b_Fr_compareSize 47 = .ok (.aload_n 0, 1) := by decide +kernel
theorem d_Fr_compareSize_48 : decode b_Fr_compareSize 48 = .ok (.getfield 34, 3) := by decide +kernel
theorem d_Fr_compareSize_51 : decode b_Fr_compareSize 51 = .ok (.aload_n 1, 1) := by decide +kernel
theorem d_Fr_compareSize_52 : decode b_Fr_compareSize 52 = .ok (.getfield 34, 3) := by decide +kernel
theorem d_Fr_compareSize_55 : decode b_Fr_compareSize 55 = .ok (.invokestatic 96, 3) := by decide +kernel
theorem d_Fr_compareSize_58 : decode b_Fr_compareSize 58 = .ok (.ireturn, 1) := by decide +kernel
theorem d_Fr_order_0 : decode b_Fr_order 0 = .ok (.aload_n 0, 1) := by decide +kernel
theorem d_Fr_order_1 : decode b_Fr_order 1 = .ok (.getfield 17, 3) := by decide +kernel
theorem d_Fr_order_4 : decode b_Fr_order 4 = .ok (.iconst 3, 1) := by decide +kernel
theorem d_Fr_order_5 : decode b_Fr_order 5 = .ok (.if_icmp .eq 11, 3) := by decide +kernel
theorem d_Fr_order_8 : decode b_Fr_order 8 = .ok (.aload_n 1, 1) := by decide +kernel
theorem d_Fr_order_9 : decode b_Fr_order 9 = .ok (.getfield 17, 3) := by decide +kernel
theorem d_Fr_order_12 : decode b_Fr_order 12 = .ok (.iconst 3, 1) := by decide +kernel
theorem d_Fr_order_13 : decode b_Fr_order 13 = .ok (.if_icmp .ne 5, 3) := by decide +kernel
theorem d_Fr_order_16 : decode b_Fr_order 16 = .ok (.iconst 1, 1) := by decide +kernel
theorem d_Fr_order_17 : decode b_Fr_order 17 = .ok (.ireturn, 1) := by decide +kernel
theorem d_Fr_order_18 : decode b_Fr_order 18 = .ok (.aload_n 0, 1) := by decide +kernel
theorem d_Fr_order_19 : decode b_Fr_order 19 = .ok (.invokevirtual 88, 3) := by decide +kernel
theorem d_Fr_order_22 : decode b_Fr_order 22 = .ok (.istore_n 2, 1) := by decide +kernel
theorem d_Fr_order_23 : decode b_Fr_order 23 = .ok (.aload_n 1, 1) := by decide +kernel
theorem d_Fr_order_24 : decode b_Fr_order 24 = .ok (.invokevirtual 88, 3) := by decide +kernel
theorem d_Fr_order_27 : decode b_Fr_order 27 = .ok (.istore_n 3, 1) := by decide +kernel
theorem d_Fr_order_28 : decode b_Fr_order 28 = .ok (.iload_n 2, 1) := by decide +kernel
theorem d_Fr_order_29 : decode b_Fr_order 29 = .ok (.iload_n 3, 1) := by decide +kernel
theorem d_Fr_order_30 : decode b_Fr_order 30 = .ok (.if_icmp .eq 14, 3) := by decide +kernel
theorem d_Fr_order_33 : decode b_Fr_order 33 = .ok (.iload_n 2, 1) := by decide +kernel
theorem d_Fr_order_34 : decode b_Fr_order 34 = .ok (.iload_n 3, 1) := by decide +kernel
theorem d_Fr_order_35 : decode b_Fr_order 35 = .ok (.if_icmp .ge 7, 3) := by decide +kernel
theorem d_Fr_order_38 : decode b_Fr_order 38 = .ok (.iconst 4, 1) := by decide +kernel
theorem d_Fr_order_39 : decode b_Fr_order 39 = .ok (.goto 4, 3) := by decide +kernel
theorem d_Fr_order_42 : decode b_Fr_order 42 = .ok (.iconst 0, 1) := by decide +kernel
theorem d_Fr_order_43 : decode b_Fr_order 43 = .ok (.ireturn, 1) := by decide +kernel
theorem d_Fr_order_44 : decode b_Fr_order 44 = .ok (.aload_n 0, 1) := by decide +kernel
theorem d_Fr_order_45 : decode b_Fr_order 45 = .ok (.aload_n 1, 1) := by decide +kernel
theorem d_Fr_order_46 : decode b_Fr_order 46 = .ok (.invokevirtual 92, 3) := by decide +kernel
theorem d_Fr_order_49 : decode b_Fr_order 49 = .ok (.istore 4, 2) := by decide +kernel
theorem d_Fr_order_51 : decode b_Fr_order 51 = .ok (.iload 4, 2) := by decide +kernel
theorem d_Fr_order_53 : decode b_Fr_order 53 = .ok (.ifCond .ne 5, 3) := by decide +kernel
theorem d_Fr_order_56 : decode b_Fr_order 56 = .ok (.iconst 2, 1) := by decide +kernel
theorem d_Fr_order_57 : decode b_Fr_order 57 = .ok (.ireturn, 1) := by decide +kernel
theorem d_Fr_order_58 : decode b_Fr_order 58 = .ok (.iload 4, 2) := by decide +kernel
theorem d_Fr_order_60 : decode b_Fr_order 60 = .ok (.ifCond .ge 7, 3) := by decide +kernel
theorem d_Fr_order_63 : decode b_Fr_order 63 = .ok (.iconst 1, 1) := by decide +kernel
theorem d_Fr_order_64 : decode b_Fr_order 64 = .ok (.goto 4, 3) := by decide +kernel
theorem d_Fr_order_67 : decode b_Fr_order 67 = .ok (.iconst 0, 1) := by decide +kernel
theorem d_Fr_order_68 : decode b_Fr_order 68 = .ok (.aload_n 0, 1) := by decide +kernel
theorem d_Fr_order_69 : decode b_Fr_order 69 = .ok (.getfield 13, 3) := by decide +kernel
theorem d_Fr_order_72 : decode b_Fr_order 72 = .ok (.if_icmp .eq 7, 3) := by decide +kernel
theorem d_Fr_order_75 : decode b_Fr_order 75 = .ok (.iconst 4, 1) := by decide +kernel
theorem d_Fr_order_76 : decode b_Fr_order 76 = .ok (.goto 4, 3) := by decide +kernel
theorem d_Fr_order_79 : decode b_Fr_order 79 = .ok (.iconst 0, 1) := by decide +kernel
theorem d_Fr_order_80 : decode b_Fr_order 80 = .ok (.ireturn, 1) := by decide +kernel
theorem d_Hl_keepHi_0 : decode b_Hl_keepHi 0 = .ok (.aload_n 0, 1) := by decide +kernel
theorem d_Hl_keepHi_1 : decode b_Hl_keepHi 1 = .ok (.iload_n 1, 1) := by decide +kernel
theorem d_Hl_keepHi_2 : decode b_Hl_keepHi 2 = .ok (.putfield 16, 3) := by decide +kernel
theorem d_Hl_keepHi_5 : decode b_Hl_keepHi 5 = .ok (.aload_n 0, 1) := by decide +kernel
theorem d_Hl_keepHi_6 : decode b_Hl_keepHi 6 = .ok (.iconst 1, 1) := by decide +kernel
theorem d_Hl_keepHi_7 : decode b_Hl_keepHi 7 = .ok (.putfield 7, 3) := by decide +kernel
theorem d_Hl_keepHi_10 : decode b_Hl_keepHi 10 = .ok (.return_, 1) := by decide +kernel
theorem d_Hl_keepLo_0 : decode b_Hl_keepLo 0 = .ok (.aload_n 0, 1) := by decide +kernel
theorem d_Hl_keepLo_1 : decode b_Hl_keepLo 1 = .ok (.iload_n 1, 1) := by decide +kernel
theorem d_Hl_keepLo_2 : decode b_Hl_keepLo 2 = .ok (.putfield 20, 3) := by decide +kernel
theorem d_Hl_keepLo_5 : decode b_Hl_keepLo 5 = .ok (.aload_n 0, 1) := by decide +kernel
theorem d_Hl_keepLo_6 : decode b_Hl_keepLo 6 = .ok (.iconst 1, 1) := by decide +kernel
theorem d_Hl_keepLo_7 : decode b_Hl_keepLo 7 = .ok (.putfield 13, 3) := by decide +kernel
theorem d_Hl_keepLo_10 : decode b_Hl_keepLo 10 = .ok (.return_, 1) := by decide +kernel
theorem d_Hl_keep_0 : decode b_Hl_keep 0 = .ok (.aload_n 0, 1) := by decide +kernel
theorem d_Hl_keep_1 : decode b_Hl_keep 1 = .ok (.lload_n 1, 1) := by decide +kernel
theorem d_Hl_keep_2 : decode b_Hl_keep 2 = .ok (.bipush 32, 2) := by decide +kernel
theorem d_Hl_keep_4 : decode b_Hl_keep 4 = .ok (.lushr, 1) := by decide +kernel
theorem d_Hl_keep_5 : decode b_Hl_keep 5 = .ok (.l2i, 1) := by decide +kernel
theorem d_Hl_keep_6 : decode b_Hl_keep 6 = .ok (.invokevirtual 23, 3) := by decide +kernel
theorem d_Hl_keep_9 : decode b_Hl_keep 9 = .ok (.aload_n 0, 1) := by decide +kernel
theorem d_Hl_keep_10 : decode b_Hl_keep 10 = .ok (.lload_n 1, 1) := by decide +kernel
theorem d_Hl_keep_11 : decode b_Hl_keep 11 = .ok (.l2i, 1) := by decide +kernel
theorem d_Hl_keep_12 : decode b_Hl_keep 12 = .ok (.invokevirtual 27, 3) := by decide +kernel
theorem d_Hl_keep_15 : decode b_Hl_keep 15 = .ok (.return_, 1) := by decide +kernel
theorem d_Hl_forget_0 : decode b_Hl_forget 0 = .ok (.aload_n 0, 1) := by decide +kernel
theorem d_Hl_forget_1 : decode b_Hl_forget 1 = .ok (.iconst 0, 1) := by decide +kernel
theorem d_Hl_forget_2 : decode b_Hl_forget 2 = .ok (.putfield 16, 3) := by decide +kernel
theorem d_Hl_forget_5 : decode b_Hl_forget 5 = .ok (.aload_n 0, 1) := by decide +kernel
theorem d_Hl_forget_6 : decode b_Hl_forget 6 = .ok (.iconst 0, 1) := by decide +kernel
theorem d_Hl_forget_7 : decode b_Hl_forget 7 = .ok (.putfield 20, 3) := by decide +kernel
theorem d_Hl_forget_10 : decode b_Hl_forget 10 = .ok (.aload_n 0, 1) := by decide +kernel
theorem d_Hl_forget_11 : decode b_Hl_forget 11 = .ok (.iconst 0, 1) := by decide +kernel
theorem d_Hl_forget_12 : decode b_Hl_forget 12 = .ok (.putfield 7, 3) := by decide +kernel
theorem d_Hl_forget_15 : decode b_Hl_forget 15 = .ok (.aload_n 0, 1) := by decide +kernel
theorem d_Hl_forget_16 : decode b_Hl_forget 16 = .ok (.iconst 0, 1) := by decide +kernel
theorem d_Hl_forget_17 : decode b_Hl_forget 17 = .ok (.putfield 13, 3) := by decide +kernel
theorem d_Hl_forget_20 : decode b_Hl_forget 20 = .ok (.return_, 1) := by decide +kernel
theorem d_Hl_divide_0 : decode b_Hl_divide 0 = .ok (.lload_n 3, 1) := by decide +kernel
theorem d_Hl_divide_1 : decode b_Hl_divide 1 = .ok (.lconst 0, 1) := by decide +kernel
theorem d_Hl_divide_2 : decode b_Hl_divide 2 = .ok (.lcmp, 1) := by decide +kernel
theorem d_Hl_divide_3 : decode b_Hl_divide 3 = .ok (.ifCond .ne 10, 3) := by decide +kernel
theorem d_Hl_divide_6 : decode b_Hl_divide 6 = .ok (.aload_n 0, 1) := by decide +kernel
theorem d_Hl_divide_7 : decode b_Hl_divide 7 = .ok (.invokevirtual 32, 3) := by decide +kernel
theorem d_Hl_divide_10 : decode b_Hl_divide 10 = .ok (.goto 19, 3) := by decide +kernel
theorem d_Hl_divide_13 : decode b_Hl_divide 13 = .ok (.aload_n 0, 1) := by decide +kernel
theorem d_Hl_divide_14 : decode b_Hl_divide 14 = .ok (.lload_n 1, 1) := by decide +kernel
theorem d_Hl_divide_15 : decode b_Hl_divide 15 = .ok (.lload_n 3, 1) := by decide +kernel
theorem d_Hl_divide_16 : decode b_Hl_divide 16 = .ok (.lrem, 1) := by decide +kernel
theorem d_Hl_divide_17 : decode b_Hl_divide 17 = .ok (.l2i, 1) := by decide +kernel
theorem d_Hl_divide_18 : decode b_Hl_divide 18 = .ok (.invokevirtual 23, 3) := by decide +kernel
theorem d_Hl_divide_21 : decode b_Hl_divide 21 = .ok (.aload_n 0, 1) := by decide +kernel
theorem d_Hl_divide_22 : decode b_Hl_divide 22 = .ok (.lload_n 1, 1) := by decide +kernel
theorem d_Hl_divide_23 : decode b_Hl_divide 23 = .ok (.lload_n 3, 1) := by decide +kernel
theorem d_Hl_divide_24 : decode b_Hl_divide 24 = .ok (.ldiv, 1) := by decide +kernel
theorem d_Hl_divide_25 : decode b_Hl_divide 25 = .ok (.l2i, 1) := by decide +kernel
theorem d_Hl_divide_26 : decode b_Hl_divide 26 = .ok (.invokevirtual 27, 3) := by decide +kernel
theorem d_Hl_divide_29 : decode b_Hl_divide 29 = .ok (.return_, 1) := by decide +kernel
theorem d_Hl_both_0 : decode b_Hl_both 0 = .ok (.aload_n 0, 1) := by decide +kernel
theorem d_Hl_both_1 : decode b_Hl_both 1 = .ok (.getfield 16, 3) := by decide +kernel
theorem d_Hl_both_4 : decode b_Hl_both 4 = .ok (.i2l, 1) := by decide +kernel
theorem d_Hl_both_5 : decode b_Hl_both 5 = .ok (.bipush 32, 2) := by decide +kernel
theorem d_Hl_both_7 : decode b_Hl_both 7 = .ok (.lshl, 1) := by decide +kernel
theorem d_Hl_both_8 : decode b_Hl_both 8 = .ok (.aload_n 0, 1) := by decide +kernel
theorem d_Hl_both_9 : decode b_Hl_both 9 = .ok (.getfield 20, 3) := by decide +kernel
theorem d_Hl_both_12 : decode b_Hl_both 12 = .ok (.i2l, 1) := by decide +kernel
theorem d_Hl_both_13 : decode b_Hl_both 13 = .ok (.ldc2_w 30, 3) := by decide +kernel
theorem d_Hl_both_16 : decode b_Hl_both 16 = .ok (.land, 1) := by decide +kernel
theorem d_Hl_both_17 : decode b_Hl_both 17 = .ok (.lor, 1) := by decide +kernel
theorem d_Hl_both_18 : decode b_Hl_both 18 = .ok (.lreturn, 1) := by decide +kernel
theorem d_Hl_known_0 : decode b_Hl_known 0 = .ok (.aload_n 0, 1) := by decide +kernel
theorem d_Hl_known_1 : decode b_Hl_known 1 = .ok (.getfield 7, 3) := by decide +kernel
theorem d_Hl_known_4 : decode b_Hl_known 4 = .ok (.ifCond .eq 14, 3) := by decide +kernel
theorem d_Hl_known_7 : decode b_Hl_known 7 = .ok (.aload_n 0, 1) := by decide +kernel
theorem d_Hl_known_8 : decode b_Hl_known 8 = .ok (.getfield 13, 3) := by decide +kernel
theorem d_Hl_known_11 : decode b_Hl_known 11 = .ok (.ifCond .eq 7, 3) := by decide +kernel
theorem d_Hl_known_14 : decode b_Hl_known 14 = .ok (.iconst 1, 1) := by decide +kernel
theorem d_Hl_known_15 : decode b_Hl_known 15 = .ok (.goto 4, 3) := by decide +kernel
theorem d_Hl_known_18 : decode b_Hl_known 18 = .ok (.iconst 0, 1) := by decide +kernel
theorem d_Hl_known_19 : decode b_Hl_known 19 = .ok (.ireturn, 1) := by decide +kernel
theorem d_Me_shift_0 : decode b_Me_shift 0 = .ok (.iconst 4, 1) := by decide +kernel
theorem d_Me_shift_1 : decode b_Me_shift 1 = .ok (.iload_n 1, 1) := by decide +kernel
theorem d_Me_shift_2 : decode b_Me_shift 2 = .ok (.isub, 1) := by decide +kernel
theorem d_Me_shift_3 : decode b_Me_shift 3 = .ok (.iload_n 0, 1) := by decide +kernel
theorem d_Me_shift_4 : decode b_Me_shift 4 = .ok (.iconst 3, 1) := by decide +kernel
theorem d_Me_shift_5 : decode b_Me_shift 5 = .ok (.iand, 1) := by decide +kernel
theorem d_Me_shift_6 : decode b_Me_shift 6 = .ok (.isub, 1) := by decide +kernel
theorem d_Me_shift_7 : decode b_Me_shift 7 = .ok (.bipush 8, 2) := by decide +kernel
theorem d_Me_shift_9 : decode b_Me_shift 9 = .ok (.imul, 1) := by decide +kernel
theorem d_Me_shift_10 : decode b_Me_shift 10 = .ok (.ireturn, 1) := by decide +kernel
theorem d_Me_mask_0 : decode b_Me_mask 0 = .ok (.iconst (-1), 1) := by decide +kernel
theorem d_Me_mask_1 : decode b_Me_mask 1 = .ok (.iconst 4, 1) := by decide +kernel
theorem d_Me_mask_2 : decode b_Me_mask 2 = .ok (.iload_n 0, 1) := by decide +kernel
theorem d_Me_mask_3 : decode b_Me_mask 3 = .ok (.isub, 1) := by decide +kernel
theorem d_Me_mask_4 : decode b_Me_mask 4 = .ok (.bipush 8, 2) := by decide +kernel
theorem d_Me_mask_6 : decode b_Me_mask 6 = .ok (.imul, 1) := by decide +kernel
theorem d_Me_mask_7 : decode b_Me_mask 7 = .ok (.iushr, 1) := by decide +kernel
theorem d_Me_mask_8 : decode b_Me_mask 8 = .ok (.ireturn, 1) := by decide +kernel
theorem d_Me_good_0 : decode b_Me_good 0 = .ok (.iload_n 1, 1) := by decide +kernel
theorem d_Me_good_1 : decode b_Me_good 1 = .ok (.ifCond .lt 25, 3) := by decide +kernel
theorem d_Me_good_4 : decode b_Me_good 4 = .ok (.iload_n 1, 1) := by decide +kernel
theorem d_Me_good_5 : decode b_Me_good 5 = .ok (.aload_n 0, 1) := by decide +kernel
theorem d_Me_good_6 : decode b_Me_good 6 = .ok (.getfield 19, 3) := by decide +kernel
theorem d_Me_good_9 : decode b_Me_good 9 = .ok (.iload_n 2, 1) := by decide +kernel
theorem d_Me_good_10 : decode b_Me_good 10 = .ok (.isub, 1) := by decide +kernel
theorem d_Me_good_11 : decode b_Me_good 11 = .ok (.if_icmp .gt 15, 3) := by decide +kernel
theorem d_Me_good_14 : decode b_Me_good 14 = .ok (.iload_n 1, 1) := by decide +kernel
theorem d_Me_good_15 : decode b_Me_good 15 = .ok (.iload_n 2, 1) := by decide +kernel
theorem d_Me_good_16 : decode b_Me_good 16 = .ok (.iconst 1, 1) := by decide +kernel
theorem d_Me_good_17 : decode b_Me_good 17 = .ok (.isub, 1) := by decide +kernel
theorem d_Me_good_18 : decode b_Me_good 18 = .ok (.iand, 1) := by decide +kernel
theorem d_Me_good_19 : decode b_Me_good 19 = .ok (.ifCond .ne 7, 3) := by decide +kernel
theorem d_Me_good_22 : decode b_Me_good 22 = .ok (.iconst 1, 1) := by decide +kernel
theorem d_Me_good_23 : decode b_Me_good 23 = .ok (.goto 4, 3) := by decide +kernel
theorem d_Me_good_26 : decode b_Me_good 26 = .ok (.iconst 0, 1) := by decide +kernel
theorem d_Me_good_27 : decode b_Me_good 27 = .ok (.ireturn, 1) := by decide +kernel
theorem d_Me_read_0 : decode b_Me_read 0 = .ok (.aload_n 0, 1) := by decide +kernel
theorem d_Me_read_1 : decode b_Me_read 1 = .ok (.getfield 23, 3) := by decide +kernel
theorem d_Me_read_4 : decode b_Me_read 4 = .ok (.iload_n 1, 1) := by decide +kernel
theorem d_Me_read_5 : decode b_Me_read 5 = .ok (.iconst 2, 1) := by decide +kernel
theorem d_Me_read_6 : decode b_Me_read 6 = .ok (.iushr, 1) := by decide +kernel
theorem d_Me_read_7 : decode b_Me_read 7 = .ok (.iaload, 1) := by decide +kernel
theorem d_Me_read_8 : decode b_Me_read 8 = .ok (.iload_n 1, 1) := by decide +kernel
theorem d_Me_read_9 : decode b_Me_read 9 = .ok (.iload_n 2, 1) := by decide +kernel
theorem d_Me_read_10 : decode b_Me_read 10 = .ok (.invokestatic 27, 3) := by decide +kernel
theorem d_Me_read_13 : decode b_Me_read 13 = .ok (.iushr, 1) := by decide +kernel
theorem d_Me_read_14 : decode b_Me_read 14 = .ok (.iload_n 2, 1) := by decide +kernel
theorem d_Me_read_15 : decode b_Me_read 15 = .ok (.invokestatic 30, 3) := by decide +kernel
theorem d_Me_read_18 : decode b_Me_read 18 = .ok (.iand, 1) := by decide +kernel
theorem d_Me_read_19 : decode b_Me_read 19 = .ok (.ireturn, 1) := by decide +kernel
theorem d_Me_write_0 : decode b_Me_write 0 = .ok (.iload_n 1, 1) := by decide +kernel
theorem d_Me_write_1 : decode b_Me_write 1 = .ok (.iload_n 2, 1) := by decide +kernel
theorem d_Me_write_2 : decode b_Me_write 2 = .ok (.invokestatic 27, 3) := by decide +kernel
theorem d_Me_write_5 : decode b_Me_write 5 = .ok (.istore 4, 2) := by decide +kernel
theorem d_Me_write_7 : decode b_Me_write 7 = .ok (.aload_n 0, 1) := by decide +kernel
theorem d_Me_write_8 : decode b_Me_write 8 = .ok (.getfield 23, 3) := by decide +kernel
theorem d_Me_write_11 : decode b_Me_write 11 = .ok (.iload_n 1, 1) := by decide +kernel
theorem d_Me_write_12 : decode b_Me_write 12 = .ok (.iconst 2, 1) := by decide +kernel
theorem d_Me_write_13 : decode b_Me_write 13 = .ok (.iushr, 1) := by decide +kernel
theorem d_Me_write_14 : decode b_Me_write 14 = .ok (.iaload, 1) := by decide +kernel
theorem d_Me_write_15 : decode b_Me_write 15 = .ok (.iload_n 2, 1) := by decide +kernel
theorem d_Me_write_16 : decode b_Me_write 16 = .ok (.invokestatic 30, 3) := by decide +kernel
theorem d_Me_write_19 : decode b_Me_write 19 = .ok (.iload 4, 2) := by decide +kernel
theorem d_Me_write_21 : decode b_Me_write 21 = .ok (.ishl, 1) := by decide +kernel
theorem d_Me_write_22 : decode b_Me_write 22 = .ok (.iconst (-1), 1) := by decide +kernel
theorem d_Me_write_23 : decode b_Me_write 23 = .ok (.ixor, 1) := by decide +kernel
theorem d_Me_write_24 : decode b_Me_write 24 = .ok (.iand, 1) := by decide +kernel
theorem d_Me_write_25 : decode b_Me_write 25 = .ok (.istore 5, 2) := by decide +kernel
theorem d_Me_write_27 : decode b_Me_write 27 = .ok (.aload_n 0, 1) := by decide +kernel
theorem d_Me_write_28 : decode b_Me_write 28 = .ok (.getfield 23, 3) := by decide +kernel
theorem d_Me_write_31 : decode b_Me_write 31 = .ok (.iload_n 1, 1) := by decide +kernel
theorem d_Me_write_32 : decode b_Me_write 32 = .ok (.iconst 2, 1) := by decide +kernel
theorem d_Me_write_33 : decode b_Me_write 33 = .ok (.iushr, 1) := by decide +kernel
theorem d_Me_write_34 : decode b_Me_write 34 = .ok (.iload 5, 2) := by decide +kernel
theorem d_Me_write_36 : decode b_Me_write 36 = .ok (.iload_n 3, 1) := by decide +kernel
theorem d_Me_write_37 : decode b_Me_write 37 = .ok (.iload_n 2, 1) := by decide +kernel
theorem d_Me_write_38 : decode b_Me_write 38 = .ok (.invokestatic 30, 3) := by decide +kernel
theorem d_Me_write_41 : decode b_Me_write 41 = .ok (.iand, 1) := by decide +kernel
theorem d_Me_write_42 : decode b_Me_write 42 = .ok (.iload 4, 2) := by decide +kernel
theorem d_Me_write_44 : decode b_Me_write 44 = .ok (.ishl, 1) := by decide +kernel
theorem d_Me_write_45 : decode b_Me_write 45 = .ok (.ior, 1) := by decide +kernel
theorem d_Me_write_46 : decode b_Me_write 46 = .ok (.iastore, 1) := by decide +kernel
theorem d_Me_write_47 : decode b_Me_write 47 = .ok (.return_, 1) := by decide +kernel
theorem d_Fu_odd_0 : decode b_Fu_odd 0 = .ok (.iload_n 0, 1) := by decide +kernel
theorem d_Fu_odd_1 : decode b_Fu_odd 1 = .ok (.ifCond .eq 13, 3) := by decide +kernel
theorem d_Fu_odd_4 : decode b_Fu_odd 4 = .ok (.iload_n 1, 1) := by decide +kernel
theorem d_Fu_odd_5 : decode b_Fu_odd 5 = .ok (.iconst 1, 1) := by decide +kernel
theorem d_Fu_odd_6 : decode b_Fu_odd 6 = .ok (.iand, 1) := by decide +kernel
theorem d_Fu_odd_7 : decode b_Fu_odd 7 = .ok (.ifCond .eq 7, 3) := by decide +kernel
theorem d_Fu_odd_10 : decode b_Fu_odd 10 = .ok (.iconst 1, 1) := by decide +kernel
theorem d_Fu_odd_11 : decode b_Fu_odd 11 = .ok (.goto 4, 3) := by decide +kernel
theorem d_Fu_odd_14 : decode b_Fu_odd 14 = .ok (.iconst 0, 1) := by decide +kernel
theorem d_Fu_odd_15 : decode b_Fu_odd 15 = .ok (.ireturn, 1) := by decide +kernel
theorem d_Fu_ft_0 : decode b_Fu_ft 0 = .ok (.iload_n 0, 1) := by decide +kernel
theorem d_Fu_ft_1 : decode b_Fu_ft 1 = .ok (.bipush 16, 2) := by decide +kernel
theorem d_Fu_ft_3 : decode b_Fu_ft 3 = .ok (.iushr, 1) := by decide +kernel
theorem d_Fu_ft_4 : decode b_Fu_ft 4 = .ok (.bipush 31, 2) := by decide +kernel
theorem d_Fu_ft_6 : decode b_Fu_ft 6 = .ok (.iand, 1) := by decide +kernel
theorem d_Fu_ft_7 : decode b_Fu_ft 7 = .ok (.ireturn, 1) := by decide +kernel
theorem d_Fu_fs_0 : decode b_Fu_fs 0 = .ok (.iload_n 0, 1) := by decide +kernel
theorem d_Fu_fs_1 : decode b_Fu_fs 1 = .ok (.bipush 11, 2) := by decide +kernel
theorem d_Fu_fs_3 : decode b_Fu_fs 3 = .ok (.iushr, 1) := by decide +kernel
theorem d_Fu_fs_4 : decode b_Fu_fs 4 = .ok (.bipush 31, 2) := by decide +kernel
theorem d_Fu_fs_6 : decode b_Fu_fs 6 = .ok (.iand, 1) := by decide +kernel
theorem d_Fu_fs_7 : decode b_Fu_fs 7 = .ok (.ireturn, 1) := by decide +kernel
theorem d_Fu_fd_0 : decode b_Fu_fd 0 = .ok (.iload_n 0, 1) := by decide +kernel
theorem d_Fu_fd_1 : decode b_Fu_fd 1 = .ok (.bipush 6, 2) := by decide +kernel
theorem d_Fu_fd_3 : decode b_Fu_fd 3 = .ok (.iushr, 1) := by decide +kernel
theorem d_Fu_fd_4 : decode b_Fu_fd 4 = .ok (.bipush 31, 2) := by decide +kernel
theorem d_Fu_fd_6 : decode b_Fu_fd 6 = .ok (.iand, 1) := by decide +kernel
theorem d_Fu_fd_7 : decode b_Fu_fd 7 = .ok (.ireturn, 1) := by decide +kernel
theorem d_Fu_conditionAsAsked_0 : decode b_Fu_conditionAsAsked 0 = .ok (.aload_n 0, 1) := by decide +kernel
theorem d_Fu_conditionAsAsked_1 : decode b_Fu_conditionAsAsked 1 = .ok (.getfield 25, 3) := by decide +kernel
theorem d_Fu_conditionAsAsked_4 : decode b_Fu_conditionAsAsked 4 = .ok (.iload_n 1, 1) := by decide +kernel
theorem d_Fu_conditionAsAsked_5 : decode b_Fu_conditionAsAsked 5 = .ok (.bipush 18, 2) := by decide +kernel
theorem d_Fu_conditionAsAsked_7 : decode b_Fu_conditionAsAsked 7 = .ok (.iushr, 1) := by decide +kernel
theorem d_Fu_conditionAsAsked_8 : decode b_Fu_conditionAsAsked 8 = .ok (.bipush 7, 2) := by decide +kernel
theorem d_Fu_conditionAsAsked_10 : decode b_Fu_conditionAsAsked 10 = .ok (.iand, 1) := by decide +kernel
theorem d_Fu_conditionAsAsked_11 : decode b_Fu_conditionAsAsked 11 = .ok (.iushr, 1) := by decide +kernel
theorem d_Fu_conditionAsAsked_12 : decode b_Fu_conditionAsAsked 12 = .ok (.iconst 1, 1) := by decide +kernel
theorem d_Fu_conditionAsAsked_13 : decode b_Fu_conditionAsAsked 13 = .ok (.iand, 1) := by decide +kernel
theorem d_Fu_conditionAsAsked_14 : decode b_Fu_conditionAsAsked 14 = .ok (.iload_n 1, 1) := by decide +kernel
theorem d_Fu_conditionAsAsked_15 : decode b_Fu_conditionAsAsked 15 = .ok (.bipush 16, 2) := by decide +kernel
theorem d_Fu_conditionAsAsked_17 : decode b_Fu_conditionAsAsked 17 = .ok (.iushr, 1) := by decide +kernel
theorem d_Fu_conditionAsAsked_18 : decode b_Fu_conditionAsAsked 18 = .ok (.iconst 1, 1) := by decide +kernel
theorem d_Fu_conditionAsAsked_19 : decode b_Fu_conditionAsAsked 19 = .ok (.iand, 1) := by decide +kernel
theorem d_Fu_conditionAsAsked_20 : decode b_Fu_conditionAsAsked 20 = .ok (.if_icmp .ne 7, 3) := by decide +kernel
theorem d_Fu_conditionAsAsked_23 : decode b_Fu_conditionAsAsked 23 = .ok (.iconst 1, 1) := by decide +kernel
theorem d_Fu_conditionAsAsked_24 : decode b_Fu_conditionAsAsked 24 = .ok (.goto 4, 3) := by decide +kernel
theorem d_Fu_conditionAsAsked_27 : decode b_Fu_conditionAsAsked 27 = .ok (.iconst 0, 1) := by decide +kernel
theorem d_Fu_conditionAsAsked_28 : decode b_Fu_conditionAsAsked 28 = .ok (.ireturn, 1) := by decide +kernel
theorem d_Fu_bits_0 : decode b_Fu_bits 0 = .ok (.aload_n 0, 1) := by decide +kernel
theorem d_Fu_bits_1 : decode b_Fu_bits 1 = .ok (.getfield 9, 3) := by decide +kernel
theorem d_Fu_bits_4 : decode b_Fu_bits 4 = .ok (.iload_n 1, 1) := by decide +kernel
theorem d_Fu_bits_5 : decode b_Fu_bits 5 = .ok (.iaload, 1) := by decide +kernel
theorem d_Fu_bits_6 : decode b_Fu_bits 6 = .ok (.i2l, 1) := by decide +kernel
theorem d_Fu_bits_7 : decode b_Fu_bits 7 = .ok (.ldc2_w 116, 3) := by decide +kernel
theorem d_Fu_bits_10 : decode b_Fu_bits 10 = .ok (.land, 1) := by decide +kernel
theorem d_Fu_bits_11 : decode b_Fu_bits 11 = .ok (.lstore_n 3, 1) := by decide +kernel
theorem d_Fu_bits_12 : decode b_Fu_bits 12 = .ok (.iload_n 2, 1) := by decide +kernel
theorem d_Fu_bits_13 : decode b_Fu_bits 13 = .ok (.ifCond .eq 20, 3) := by decide +kernel
theorem d_Fu_bits_16 : decode b_Fu_bits 16 = .ok (.aload_n 0, 1) := by decide +kernel
theorem d_Fu_bits_17 : decode b_Fu_bits 17 = .ok (.getfield 9, 3) := by decide +kernel
theorem d_Fu_bits_20 : decode b_Fu_bits 20 = .ok (.iload_n 1, 1) := by decide +kernel
theorem d_Fu_bits_21 : decode b_Fu_bits 21 = .ok (.iconst 1, 1) := by decide +kernel
theorem d_Fu_bits_22 : decode b_Fu_bits 22 = .ok (.ior, 1) := by decide +kernel
theorem d_Fu_bits_23 : decode b_Fu_bits 23 = .ok (.iaload, 1) := by decide +kernel
theorem d_Fu_bits_24 : decode b_Fu_bits 24 = .ok (.i2l, 1) := by decide +kernel
theorem d_Fu_bits_25 : decode b_Fu_bits 25 = .ok (.bipush 32, 2) := by decide +kernel
theorem d_Fu_bits_27 : decode b_Fu_bits 27 = .ok (.lshl, 1) := by decide +kernel
theorem d_Fu_bits_28 : decode b_Fu_bits 28 = .ok (.lload_n 3, 1) := by decide +kernel
theorem d_Fu_bits_29 : decode b_Fu_bits 29 = .ok (.lor, 1) := by decide +kernel
theorem d_Fu_bits_30 : decode b_Fu_bits 30 = .ok (.goto 4, 3) := by decide +kernel
theorem d_Fu_bits_33 : decode b_Fu_bits 33 = .ok (.lload_n 3, 1) := by decide +kernel
theorem d_Fu_bits_34 : decode b_Fu_bits 34 = .ok (.lreturn, 1) := by decide +kernel
theorem d_Fu_result_0 : decode b_Fu_result 0 = .ok (.aload_n 0, 1) := by decide +kernel
theorem d_Fu_result_1 : decode b_Fu_result 1 = .ok (.getfield 9, 3) := by decide +kernel
theorem d_Fu_result_4 : decode b_Fu_result 4 = .ok (.iload_n 1, 1) := by decide +kernel
theorem d_Fu_result_5 : decode b_Fu_result 5 = .ok (.invokestatic 59, 3) := by decide +kernel
theorem d_Fu_result_8 : decode b_Fu_result 8 = .ok (.lload_n 2, 1) := by decide +kernel
theorem d_Fu_result_9 : decode b_Fu_result 9 = .ok (.l2i, 1) := by decide +kernel
theorem d_Fu_result_10 : decode b_Fu_result 10 = .ok (.iastore, 1) := by decide +kernel
theorem d_Fu_result_11 : decode b_Fu_result 11 = .ok (.iload 4, 2) := by decide +kernel
theorem d_Fu_result_13 : decode b_Fu_result 13 = .ok (.ifCond .eq 19, 3) := by decide +kernel
theorem d_Fu_result_16 : decode b_Fu_result 16 = .ok (.aload_n 0, 1) := by decide +kernel
theorem d_Fu_result_17 : decode b_Fu_result 17 = .ok (.getfield 9, 3) := by decide +kernel
theorem d_Fu_result_20 : decode b_Fu_result 20 = .ok (.iload_n 1, 1) := by decide +kernel
theorem d_Fu_result_21 : decode b_Fu_result 21 = .ok (.invokestatic 59, 3) := by decide +kernel
theorem d_Fu_result_24 : decode b_Fu_result 24 = .ok (.iconst 1, 1) := by decide +kernel
theorem d_Fu_result_25 : decode b_Fu_result 25 = .ok (.ior, 1) := by decide +kernel
theorem d_Fu_result_26 : decode b_Fu_result 26 = .ok (.lload_n 2, 1) := by decide +kernel
theorem d_Fu_result_27 : decode b_Fu_result 27 = .ok (.bipush 32, 2) := by decide +kernel
theorem d_Fu_result_29 : decode b_Fu_result 29 = .ok (.lushr, 1) := by decide +kernel
theorem d_Fu_result_30 : decode b_Fu_result 30 = .ok (.l2i, 1) := by decide +kernel
theorem d_Fu_result_31 : decode b_Fu_result 31 = .ok (.iastore, 1) := by decide +kernel
theorem d_Fu_result_32 : decode b_Fu_result 32 = .ok (.iconst 0, 1) := by decide +kernel
theorem d_Fu_result_33 : decode b_Fu_result 33 = .ok (.ireturn, 1) := by decide +kernel
theorem d_Fu_convertFromWord_0 : decode b_Fu_convertFromWord 0 = .ok (.iload_n 1, 1) := by decide +kernel
theorem d_Fu_convertFromWord_1 : decode b_Fu_convertFromWord 1 = .ok (.bipush 63, 2) := by decide +kernel
theorem d_Fu_convertFromWord_3 : decode b_Fu_convertFromWord 3 = .ok (.iand, 1) := by decide +kernel
theorem d_Fu_convertFromWord_4 : decode b_Fu_convertFromWord 4 = .ok (.istore_n 2, 1) := by decide +kernel
theorem d_Fu_convertFromWord_5 : decode b_Fu_convertFromWord 5 = .ok (.iload_n 2, 1) := by decide +kernel
theorem d_Fu_convertFromWord_6 : decode b_Fu_convertFromWord 6 = .ok (.bipush 33, 2) := by decide +kernel
theorem d_Fu_convertFromWord_8 : decode b_Fu_convertFromWord 8 = .ok (.if_icmp .ne 7, 3) := by decide +kernel
theorem d_Fu_convertFromWord_11 : decode b_Fu_convertFromWord 11 = .ok (.iconst 1, 1) := by decide +kernel
theorem d_Fu_convertFromWord_12 : decode b_Fu_convertFromWord 12 = .ok (.goto 4, 3) := by decide +kernel
theorem d_Fu_convertFromWord_15 : decode b_Fu_convertFromWord 15 = .ok (.iconst 0, 1) := by decide +kernel
theorem d_Fu_convertFromWord_16 : decode b_Fu_convertFromWord 16 = .ok (.istore_n 3, 1) := by decide +kernel
theorem d_Fu_convertFromWord_17 : decode b_Fu_convertFromWord 17 = .ok (.iload_n 3, 1) := by decide +kernel
theorem d_Fu_convertFromWord_18 : decode b_Fu_convertFromWord 18 = .ok (.ifCond .ne 11, 3) := by decide +kernel
theorem d_Fu_convertFromWord_21 : decode b_Fu_convertFromWord 21 = .ok (.iload_n 2, 1) := by decide +kernel
theorem d_Fu_convertFromWord_22 : decode b_Fu_convertFromWord 22 = .ok (.bipush 32, 2) := by decide +kernel
theorem d_Fu_convertFromWord_24 : decode b_Fu_convertFromWord 24 = .ok (.if_icmp .eq 5, 3) := by decide +kernel
theorem d_Fu_convertFromWord_27 : decode b_Fu_convertFromWord 27 = .ok (.iconst 3, 1) := by decide +kernel
theorem d_Fu_convertFromWord_28 : decode b_Fu_convertFromWord 28 = .ok (.ireturn, 1) := by decide +kernel
theorem d_Fu_convertFromWord_29 : decode b_Fu_convertFromWord 29 = .ok (.iload_n 3, 1) := by decide +kernel
theorem d_Fu_convertFromWord_30 : decode b_Fu_convertFromWord 30 = .ok (.iload_n 1, 1) := by decide +kernel
theorem d_Fu_convertFromWord_31 : decode b_Fu_convertFromWord 31 = .ok (.invokestatic 59, 3) := by decide +kernel
theorem d_Fu_convertFromWord_34 : decode b_Fu_convertFromWord 34 = .ok (.invokestatic 62, 3) := by decide +kernel
theorem d_Fu_convertFromWord_37 : decode b_Fu_convertFromWord 37 = .ok (.ifCond .eq 6, 3) := by decide +kernel
theorem d_Fu_convertFromWord_40 : decode b_Fu_convertFromWord 40 = .ok (.bipush 8, 2) := by decide +kernel
theorem d_Fu_convertFromWord_42 : decode b_Fu_convertFromWord 42 = .ok (.ireturn, 1) := by decide +kernel
theorem d_Fu_convertFromWord_43 : decode b_Fu_convertFromWord 43 = .ok (.aload_n 0, 1) := by decide +kernel
theorem d_Fu_convertFromWord_44 : decode b_Fu_convertFromWord 44 = .ok (.getfield 18, 3) := by decide +kernel
theorem d_Fu_convertFromWord_47 : decode b_Fu_convertFromWord 47 = .ok (.aload_n 0, 1) := by decide +kernel
theorem d_Fu_convertFromWord_48 : decode b_Fu_convertFromWord 48 = .ok (.getfield 9, 3) := by decide +kernel
theorem d_Fu_convertFromWord_51 : decode b_Fu_convertFromWord 51 = .ok (.iload_n 1, 1) := by decide +kernel
theorem d_Fu_convertFromWord_52 : decode b_Fu_convertFromWord 52 = .ok (.invokestatic 53, 3) := by decide +kernel
theorem d_Fu_convertFromWord_55 : decode b_Fu_convertFromWord 55 = .ok (.iaload, 1) := by decide +kernel
theorem d_Fu_convertFromWord_56 : decode b_Fu_convertFromWord 56 = .ok (.invokevirtual 112, 3) := by decide +kernel
theorem d_Fu_convertFromWord_59 : decode b_Fu_convertFromWord 59 = .ok (.aload_n 0, 1) := by decide +kernel
theorem d_Fu_convertFromWord_60 : decode b_Fu_convertFromWord 60 = .ok (.iload_n 1, 1) := by decide +kernel
theorem d_Fu_convertFromWord_61 : decode b_Fu_convertFromWord 61 = .ok (.aload_n 0, 1) := by decide +kernel
theorem d_Fu_convertFromWord_62 : decode b_Fu_convertFromWord 62 = .ok (.getfield 18, 3) := by decide +kernel
theorem d_Fu_convertFromWord_65 : decode b_Fu_convertFromWord 65 = .ok (.iload_n 3, 1) := by decide +kernel
theorem d_Fu_convertFromWord_66 : decode b_Fu_convertFromWord 66 = .ok (.invokevirtual 87, 3) := by decide +kernel
theorem d_Fu_convertFromWord_69 : decode b_Fu_convertFromWord 69 = .ok (.iload_n 3, 1) := by decide +kernel
theorem d_Fu_convertFromWord_70 : decode b_Fu_convertFromWord 70 = .ok (.invokevirtual 91, 3) := by decide +kernel
theorem d_Fu_convertFromWord_73 : decode b_Fu_convertFromWord 73 = .ok (.ireturn, 1) := by decide +kernel
theorem d_Fu_compute_0 : decode b_Fu_compute 0 = .ok (.iload_n 2, 1) := by decide +kernel
theorem d_Fu_compute_1 : decode b_Fu_compute 1 = .ok (.iload_n 1, 1) := by decide +kernel
theorem d_Fu_compute_2 : decode b_Fu_compute 2 = .ok (.invokestatic 53, 3) := by decide +kernel
theorem d_Fu_compute_5 : decode b_Fu_compute 5 = .ok (.iload_n 1, 1) := by decide +kernel
theorem d_Fu_compute_6 : decode b_Fu_compute 6 = .ok (.invokestatic 56, 3) := by decide +kernel
theorem d_Fu_compute_9 : decode b_Fu_compute 9 = .ok (.ior, 1) := by decide +kernel
theorem d_Fu_compute_10 : decode b_Fu_compute 10 = .ok (.iload_n 1, 1) := by decide +kernel
theorem d_Fu_compute_11 : decode b_Fu_compute 11 = .ok (.invokestatic 59, 3) := by decide +kernel
theorem d_Fu_compute_14 : decode b_Fu_compute 14 = .ok (.ior, 1) := by decide +kernel
theorem d_Fu_compute_15 : decode b_Fu_compute 15 = .ok (.invokestatic 62, 3) := by decide +kernel
theorem d_Fu_compute_18 : decode b_Fu_compute 18 = .ok (.ifCond .eq 6, 3) := by decide +kernel
theorem d_Fu_compute_21 : decode b_Fu_compute 21 = .ok (.bipush 8, 2) := by decide +kernel
theorem d_Fu_compute_23 : decode b_Fu_compute 23 = .ok (.ireturn, 1) := by decide +kernel
theorem d_Fu_compute_24 : decode b_Fu_compute 24 = .ok (.aload_n 0, 1) := by decide +kernel
theorem d_Fu_compute_25 : decode b_Fu_compute 25 = .ok (.getfield 18, 3) := by decide +kernel
theorem d_Fu_compute_28 : decode b_Fu_compute 28 = .ok (.aload_n 0, 1) := by decide +kernel
theorem d_Fu_compute_29 : decode b_Fu_compute 29 = .ok (.iload_n 1, 1) := by decide +kernel
theorem d_Fu_compute_30 : decode b_Fu_compute 30 = .ok (.invokestatic 53, 3) := by decide +kernel
theorem d_Fu_compute_33 : decode b_Fu_compute 33 = .ok (.iload_n 2, 1) := by decide +kernel
theorem d_Fu_compute_34 : decode b_Fu_compute 34 = .ok (.invokevirtual 66, 3) := by decide +kernel
theorem d_Fu_compute_37 : decode b_Fu_compute 37 = .ok (.iload_n 2, 1) := by decide +kernel
theorem d_Fu_compute_38 : decode b_Fu_compute 38 = .ok (.invokevirtual 70, 3) := by decide +kernel
theorem d_Fu_compute_41 : decode b_Fu_compute 41 = .ok (.aload_n 0, 1) := by decide +kernel
theorem d_Fu_compute_42 : decode b_Fu_compute 42 = .ok (.getfield 22, 3) := by decide +kernel
theorem d_Fu_compute_45 : decode b_Fu_compute 45 = .ok (.aload_n 0, 1) := by decide +kernel
theorem d_Fu_compute_46 : decode b_Fu_compute 46 = .ok (.iload_n 1, 1) := by decide +kernel
theorem d_Fu_compute_47 : decode b_Fu_compute 47 = .ok (.invokestatic 56, 3) := by decide +kernel
theorem d_Fu_compute_50 : decode b_Fu_compute 50 = .ok (.iload_n 2, 1) := by decide +kernel
theorem d_Fu_compute_51 : decode b_Fu_compute 51 = .ok (.invokevirtual 66, 3) := by decide +kernel
theorem d_Fu_compute_54 : decode b_Fu_compute 54 = .ok (.iload_n 2, 1) := by decide +kernel
theorem d_Fu_compute_55 : decode b_Fu_compute 55 = .ok (.invokevirtual 70, 3) := by decide +kernel
theorem d_Fu_compute_58 : decode b_Fu_compute 58 = .ok (.iload_n 1, 1) := by decide +kernel
theorem d_Fu_compute_59 : decode b_Fu_compute 59 = .ok (.bipush 63, 2) := by decide +kernel
theorem d_Fu_compute_61 : decode b_Fu_compute 61 = .ok (.iand, 1) := by decide +kernel
theorem d_Fu_compute_62 : decode b_Fu_compute 62 = .ok (.tableswitch 75 0 2 #[26, 40, 61], 26) := by decide +kernel
theorem d_Fu_compute_88 : decode b_Fu_compute 88 = .ok (.aload_n 0, 1) := by decide +kernel
theorem d_Fu_compute_89 : decode b_Fu_compute 89 = .ok (.getfield 18, 3) := by decide +kernel
theorem d_Fu_compute_92 : decode b_Fu_compute 92 = .ok (.aload_n 0, 1) := by decide +kernel
theorem d_Fu_compute_93 : decode b_Fu_compute 93 = .ok (.getfield 22, 3) := by decide +kernel
theorem d_Fu_compute_96 : decode b_Fu_compute 96 = .ok (.invokevirtual 74, 3) := by decide +kernel
theorem d_Fu_compute_99 : decode b_Fu_compute 99 = .ok (.goto 49, 3) := by decide +kernel
theorem d_Fu_compute_102 : decode b_Fu_compute 102 = .ok (.aload_n 0, 1) := by decide +kernel
theorem d_Fu_compute_103 : decode b_Fu_compute 103 = .ok (.getfield 22, 3) := by decide +kernel
theorem d_Fu_compute_106 : decode b_Fu_compute 106 = .ok (.invokevirtual 78, 3) := by decide +kernel
theorem d_Fu_compute_109 : decode b_Fu_compute 109 = .ok (.aload_n 0, 1) := by decide +kernel
theorem d_Fu_compute_110 : decode b_Fu_compute 110 = .ok (.getfield 18, 3) := by decide +kernel
theorem d_Fu_compute_113 : decode b_Fu_compute 113 = .ok (.aload_n 0, 1) := by decide +kernel
theorem d_Fu_compute_114 : decode b_Fu_compute 114 = .ok (.getfield 22, 3) := by decide +kernel
theorem d_Fu_compute_117 : decode b_Fu_compute 117 = .ok (.invokevirtual 74, 3) := by decide +kernel
theorem d_Fu_compute_120 : decode b_Fu_compute 120 = .ok (.goto 28, 3) := by decide +kernel
theorem d_Fu_compute_123 : decode b_Fu_compute 123 = .ok (.aload_n 0, 1) := by decide +kernel
theorem d_Fu_compute_124 : decode b_Fu_compute 124 = .ok (.getfield 18, 3) := by decide +kernel
theorem d_Fu_compute_127 : decode b_Fu_compute 127 = .ok (.aload_n 0, 1) := by decide +kernel
theorem d_Fu_compute_128 : decode b_Fu_compute 128 = .ok (.getfield 22, 3) := by decide +kernel
theorem d_Fu_compute_131 : decode b_Fu_compute 131 = .ok (.invokevirtual 81, 3) := by decide +kernel
theorem d_Fu_compute_134 : decode b_Fu_compute 134 = .ok (.goto 14, 3) := by decide +kernel
theorem d_Fu_compute_137 : decode b_Fu_compute 137 = .ok (.aload_n 0, 1) := by decide +kernel
theorem d_Fu_compute_138 : decode b_Fu_compute 138 = .ok (.getfield 18, 3) := by decide +kernel
theorem d_Fu_compute_141 : decode b_Fu_compute 141 = .ok (.aload_n 0, 1) := by decide +kernel
theorem d_Fu_compute_142 : decode b_Fu_compute 142 = .ok (.getfield 22, 3) := by decide +kernel
theorem d_Fu_compute_145 : decode b_Fu_compute 145 = .ok (.invokevirtual 84, 3) := by decide +kernel
theorem d_Fu_compute_148 : decode b_Fu_compute 148 = .ok (.aload_n 0, 1) := by decide +kernel
theorem d_Fu_compute_149 : decode b_Fu_compute 149 = .ok (.iload_n 1, 1) := by decide +kernel
theorem d_Fu_compute_150 : decode b_Fu_compute 150 = .ok (.aload_n 0, 1) := by decide +kernel
theorem d_Fu_compute_151 : decode b_Fu_compute 151 = .ok (.getfield 18, 3) := by decide +kernel
theorem d_Fu_compute_154 : decode b_Fu_compute 154 = .ok (.iload_n 2, 1) := by decide +kernel
theorem d_Fu_compute_155 : decode b_Fu_compute 155 = .ok (.invokevirtual 87, 3) := by decide +kernel
theorem d_Fu_compute_158 : decode b_Fu_compute 158 = .ok (.iload_n 2, 1) := by decide +kernel
theorem d_Fu_compute_159 : decode b_Fu_compute 159 = .ok (.invokevirtual 91, 3) := by decide +kernel
theorem d_Fu_compute_162 : decode b_Fu_compute 162 = .ok (.ireturn, 1) := by decide +kernel
theorem d_Fu_change_0 : decode b_Fu_change 0 = .ok (.iload_n 2, 1) := by decide +kernel
theorem d_Fu_change_1 : decode b_Fu_change 1 = .ok (.iload_n 1, 1) := by decide +kernel
theorem d_Fu_change_2 : decode b_Fu_change 2 = .ok (.invokestatic 53, 3) := by decide +kernel
theorem d_Fu_change_5 : decode b_Fu_change 5 = .ok (.iload_n 1, 1) := by decide +kernel
theorem d_Fu_change_6 : decode b_Fu_change 6 = .ok (.invokestatic 59, 3) := by decide +kernel
theorem d_Fu_change_9 : decode b_Fu_change 9 = .ok (.ior, 1) := by decide +kernel
theorem d_Fu_change_10 : decode b_Fu_change 10 = .ok (.invokestatic 62, 3) := by decide +kernel
theorem d_Fu_change_13 : decode b_Fu_change 13 = .ok (.ifCond .eq 6, 3) := by decide +kernel
theorem d_Fu_change_16 : decode b_Fu_change 16 = .ok (.bipush 8, 2) := by decide +kernel
theorem d_Fu_change_18 : decode b_Fu_change 18 = .ok (.ireturn, 1) := by decide +kernel
theorem d_Fu_change_19 : decode b_Fu_change 19 = .ok (.aload_n 0, 1) := by decide +kernel
theorem d_Fu_change_20 : decode b_Fu_change 20 = .ok (.iload_n 1, 1) := by decide +kernel
theorem d_Fu_change_21 : decode b_Fu_change 21 = .ok (.invokestatic 53, 3) := by decide +kernel
theorem d_Fu_change_24 : decode b_Fu_change 24 = .ok (.iload_n 2, 1) := by decide +kernel
theorem d_Fu_change_25 : decode b_Fu_change 25 = .ok (.invokevirtual 66, 3) := by decide +kernel
theorem d_Fu_change_28 : decode b_Fu_change 28 = .ok (.lstore_n 3, 1) := by decide +kernel
theorem d_Fu_change_29 : decode b_Fu_change 29 = .ok (.aload_n 0, 1) := by decide +kernel
theorem d_Fu_change_30 : decode b_Fu_change 30 = .ok (.getfield 18, 3) := by decide +kernel
theorem d_Fu_change_33 : decode b_Fu_change 33 = .ok (.lload_n 3, 1) := by decide +kernel
theorem d_Fu_change_34 : decode b_Fu_change 34 = .ok (.iload_n 2, 1) := by decide +kernel
theorem d_Fu_change_35 : decode b_Fu_change 35 = .ok (.invokevirtual 70, 3) := by decide +kernel
theorem d_Fu_change_38 : decode b_Fu_change 38 = .ok (.iload_n 1, 1) := by decide +kernel
theorem d_Fu_change_39 : decode b_Fu_change 39 = .ok (.bipush 63, 2) := by decide +kernel
theorem d_Fu_change_41 : decode b_Fu_change 41 = .ok (.iand, 1) := by decide +kernel
theorem d_Fu_change_42 : decode b_Fu_change 42 = .ok (.tableswitch 54 4 6 #[26, 36, 46], 26) := by decide +kernel
theorem d_Fu_change_68 : decode b_Fu_change 68 = .ok (.aload_n 0, 1) := by decide +kernel
theorem d_Fu_change_69 : decode b_Fu_change 69 = .ok (.getfield 18, 3) := by decide +kernel
theorem d_Fu_change_72 : decode b_Fu_change 72 = .ok (.invokevirtual 95, 3) := by decide +kernel
theorem d_Fu_change_75 : decode b_Fu_change 75 = .ok (.goto 28, 3) := by decide +kernel
theorem d_Fu_change_78 : decode b_Fu_change 78 = .ok (.aload_n 0, 1) := by decide +kernel
theorem d_Fu_change_79 : decode b_Fu_change 79 = .ok (.getfield 18, 3) := by decide +kernel
theorem d_Fu_change_82 : decode b_Fu_change 82 = .ok (.invokevirtual 98, 3) := by decide +kernel
theorem d_Fu_change_85 : decode b_Fu_change 85 = .ok (.goto 18, 3) := by decide +kernel
theorem d_Fu_change_88 : decode b_Fu_change 88 = .ok (.aload_n 0, 1) := by decide +kernel
theorem d_Fu_change_89 : decode b_Fu_change 89 = .ok (.iload_n 1, 1) := by decide +kernel
theorem d_Fu_change_90 : decode b_Fu_change 90 = .ok (.lload_n 3, 1) := by decide +kernel
theorem d_Fu_change_91 : decode b_Fu_change 91 = .ok (.iload_n 2, 1) := by decide +kernel
theorem d_Fu_change_92 : decode b_Fu_change 92 = .ok (.invokevirtual 91, 3) := by decide +kernel
theorem d_Fu_change_95 : decode b_Fu_change 95 = .ok (.ireturn, 1) := by decide +kernel
theorem d_Fu_change_96 : decode b_Fu_change 96 = .ok (.aload_n 0, 1) := by decide +kernel
theorem d_Fu_change_97 : decode b_Fu_change 97 = .ok (.getfield 18, 3) := by decide +kernel
theorem d_Fu_change_100 : decode b_Fu_change 100 = .ok (.invokevirtual 78, 3) := by decide +kernel
theorem d_Fu_change_103 : decode b_Fu_change 103 = .ok (.aload_n 0, 1) := by decide +kernel
theorem d_Fu_change_104 : decode b_Fu_change 104 = .ok (.iload_n 1, 1) := by decide +kernel
theorem d_Fu_change_105 : decode b_Fu_change 105 = .ok (.aload_n 0, 1) := by decide +kernel
theorem d_Fu_change_106 : decode b_Fu_change 106 = .ok (.getfield 18, 3) := by decide +kernel
theorem d_Fu_change_109 : decode b_Fu_change 109 = .ok (.iload_n 2, 1) := by decide +kernel
theorem d_Fu_change_110 : decode b_Fu_change 110 = .ok (.invokevirtual 87, 3) := by decide +kernel
theorem d_Fu_change_113 : decode b_Fu_change 113 = .ok (.iload_n 2, 1) := by decide +kernel
theorem d_Fu_change_114 : decode b_Fu_change 114 = .ok (.invokevirtual 91, 3) := by decide +kernel
theorem d_Fu_change_117 : decode b_Fu_change 117 = .ok (.ireturn, 1) := by decide +kernel
theorem d_Fu_compare_0 : decode b_Fu_compare 0 = .ok (.iload_n 2, 1) := by decide +kernel
theorem d_Fu_compare_1 : decode b_Fu_compare 1 = .ok (.iload_n 1, 1) := by decide +kernel
theorem d_Fu_compare_2 : decode b_Fu_compare 2 = .ok (.invokestatic 53, 3) := by decide +kernel
theorem d_Fu_compare_5 : decode b_Fu_compare 5 = .ok (.iload_n 1, 1) := by decide +kernel
theorem d_Fu_compare_6 : decode b_Fu_compare 6 = .ok (.invokestatic 56, 3) := by decide +kernel
theorem d_Fu_compare_9 : decode b_Fu_compare 9 = .ok (.ior, 1) := by decide +kernel
theorem d_Fu_compare_10 : decode b_Fu_compare 10 = .ok (.invokestatic 62, 3) := by decide +kernel
theorem d_Fu_compare_13 : decode b_Fu_compare 13 = .ok (.ifCond .eq 6, 3) := by decide +kernel
theorem d_Fu_compare_16 : decode b_Fu_compare 16 = .ok (.bipush 8, 2) := by decide +kernel
theorem d_Fu_compare_18 : decode b_Fu_compare 18 = .ok (.ireturn, 1) := by decide +kernel
theorem d_Fu_compare_19 : decode b_Fu_compare 19 = .ok (.aload_n 0, 1) := by decide +kernel
theorem d_Fu_compare_20 : decode b_Fu_compare 20 = .ok (.getfield 18, 3) := by decide +kernel
theorem d_Fu_compare_23 : decode b_Fu_compare 23 = .ok (.aload_n 0, 1) := by decide +kernel
theorem d_Fu_compare_24 : decode b_Fu_compare 24 = .ok (.iload_n 1, 1) := by decide +kernel
theorem d_Fu_compare_25 : decode b_Fu_compare 25 = .ok (.invokestatic 53, 3) := by decide +kernel
theorem d_Fu_compare_28 : decode b_Fu_compare 28 = .ok (.iload_n 2, 1) := by decide +kernel
theorem d_Fu_compare_29 : decode b_Fu_compare 29 = .ok (.invokevirtual 66, 3) := by decide +kernel
theorem d_Fu_compare_32 : decode b_Fu_compare 32 = .ok (.iload_n 2, 1) := by decide +kernel
theorem d_Fu_compare_33 : decode b_Fu_compare 33 = .ok (.invokevirtual 70, 3) := by decide +kernel
theorem d_Fu_compare_36 : decode b_Fu_compare 36 = .ok (.aload_n 0, 1) := by decide +kernel
theorem d_Fu_compare_37 : decode b_Fu_compare 37 = .ok (.getfield 22, 3) := by decide +kernel
theorem d_Fu_compare_40 : decode b_Fu_compare 40 = .ok (.aload_n 0, 1) := by decide +kernel
theorem d_Fu_compare_41 : decode b_Fu_compare 41 = .ok (.iload_n 1, 1) := by decide +kernel
theorem d_Fu_compare_42 : decode b_Fu_compare 42 = .ok (.invokestatic 56, 3) := by decide +kernel
theorem d_Fu_compare_45 : decode b_Fu_compare 45 = .ok (.iload_n 2, 1) := by decide +kernel
theorem d_Fu_compare_46 : decode b_Fu_compare 46 = .ok (.invokevirtual 66, 3) := by decide +kernel
theorem d_Fu_compare_49 : decode b_Fu_compare 49 = .ok (.iload_n 2, 1) := by decide +kernel
theorem d_Fu_compare_50 : decode b_Fu_compare 50 = .ok (.invokevirtual 70, 3) := by decide +kernel
theorem d_Fu_compare_53 : decode b_Fu_compare 53 = .ok (.aload_n 0, 1) := by decide +kernel
theorem d_Fu_compare_54 : decode b_Fu_compare 54 = .ok (.getfield 18, 3) := by decide +kernel
theorem d_Fu_compare_57 : decode b_Fu_compare 57 = .ok (.aload_n 0, 1) := by decide +kernel
theorem d_Fu_compare_58 : decode b_Fu_compare 58 = .ok (.getfield 22, 3) := by decide +kernel
theorem d_Fu_compare_61 : decode b_Fu_compare 61 = .ok (.invokevirtual 105, 3) := by decide +kernel
theorem d_Fu_compare_64 : decode b_Fu_compare 64 = .ok (.istore_n 3, 1) := by decide +kernel
theorem d_Fu_compare_65 : decode b_Fu_compare 65 = .ok (.iload_n 1, 1) := by decide +kernel
theorem d_Fu_compare_66 : decode b_Fu_compare 66 = .ok (.bipush 8, 2) := by decide +kernel
theorem d_Fu_compare_68 : decode b_Fu_compare 68 = .ok (.iushr, 1) := by decide +kernel
theorem d_Fu_compare_69 : decode b_Fu_compare 69 = .ok (.bipush 7, 2) := by decide +kernel
theorem d_Fu_compare_71 : decode b_Fu_compare 71 = .ok (.iand, 1) := by decide +kernel
theorem d_Fu_compare_72 : decode b_Fu_compare 72 = .ok (.istore 4, 2) := by decide +kernel
theorem d_Fu_compare_74 : decode b_Fu_compare 74 = .ok (.iload_n 1, 1) := by decide +kernel
theorem d_Fu_compare_75 : decode b_Fu_compare 75 = .ok (.iload_n 3, 1) := by decide +kernel
theorem d_Fu_compare_76 : decode b_Fu_compare 76 = .ok (.iand, 1) := by decide +kernel
theorem d_Fu_compare_77 : decode b_Fu_compare 77 = .ok (.ifCond .eq 7, 3) := by decide +kernel
theorem d_Fu_compare_80 : decode b_Fu_compare 80 = .ok (.iconst 1, 1) := by decide +kernel
theorem d_Fu_compare_81 : decode b_Fu_compare 81 = .ok (.goto 4, 3) := by decide +kernel
theorem d_Fu_compare_84 : decode b_Fu_compare 84 = .ok (.iconst 0, 1) := by decide +kernel
theorem d_Fu_compare_85 : decode b_Fu_compare 85 = .ok (.istore 5, 2) := by decide +kernel
theorem d_Fu_compare_87 : decode b_Fu_compare 87 = .ok (.aload_n 0, 1) := by decide +kernel
theorem d_Fu_compare_88 : decode b_Fu_compare 88 = .ok (.aload_n 0, 1) := by decide +kernel
theorem d_Fu_compare_89 : decode b_Fu_compare 89 = .ok (.getfield 25, 3) := by decide +kernel
theorem d_Fu_compare_92 : decode b_Fu_compare 92 = .ok (.iconst 1, 1) := by decide +kernel
theorem d_Fu_compare_93 : decode b_Fu_compare 93 = .ok (.iload 4, 2) := by decide +kernel
theorem d_Fu_compare_95 : decode b_Fu_compare 95 = .ok (.ishl, 1) := by decide +kernel
theorem d_Fu_compare_96 : decode b_Fu_compare 96 = .ok (.iconst (-1), 1) := by decide +kernel
theorem d_Fu_compare_97 : decode b_Fu_compare 97 = .ok (.ixor, 1) := by decide +kernel
theorem d_Fu_compare_98 : decode b_Fu_compare 98 = .ok (.iand, 1) := by decide +kernel
theorem d_Fu_compare_99 : decode b_Fu_compare 99 = .ok (.iload 5, 2) := by decide +kernel
theorem d_Fu_compare_101 : decode b_Fu_compare 101 = .ok (.iload 4, 2) := by decide +kernel
theorem d_Fu_compare_103 : decode b_Fu_compare 103 = .ok (.ishl, 1) := by decide +kernel
theorem d_Fu_compare_104 : decode b_Fu_compare 104 = .ok (.ior, 1) := by decide +kernel
theorem d_Fu_compare_105 : decode b_Fu_compare 105 = .ok (.putfield 25, 3) := by decide +kernel
theorem d_Fu_compare_108 : decode b_Fu_compare 108 = .ok (.iconst 0, 1) := by decide +kernel
theorem d_Fu_compare_109 : decode b_Fu_compare 109 = .ok (.ireturn, 1) := by decide +kernel
theorem d_Fu_convertToWord_0 : decode b_Fu_convertToWord 0 = .ok (.iload_n 2, 1) := by decide +kernel
theorem d_Fu_convertToWord_1 : decode b_Fu_convertToWord 1 = .ok (.iload_n 1, 1) := by decide +kernel
theorem d_Fu_convertToWord_2 : decode b_Fu_convertToWord 2 = .ok (.invokestatic 53, 3) := by decide +kernel
theorem d_Fu_convertToWord_5 : decode b_Fu_convertToWord 5 = .ok (.invokestatic 62, 3) := by decide +kernel
theorem d_Fu_convertToWord_8 : decode b_Fu_convertToWord 8 = .ok (.ifCond .eq 6, 3) := by decide +kernel
theorem d_Fu_convertToWord_11 : decode b_Fu_convertToWord 11 = .ok (.bipush 8, 2) := by decide +kernel
theorem d_Fu_convertToWord_13 : decode b_Fu_convertToWord 13 = .ok (.ireturn, 1) := by decide +kernel
theorem d_Fu_convertToWord_14 : decode b_Fu_convertToWord 14 = .ok (.aload_n 0, 1) := by decide +kernel
theorem d_Fu_convertToWord_15 : decode b_Fu_convertToWord 15 = .ok (.getfield 18, 3) := by decide +kernel
theorem d_Fu_convertToWord_18 : decode b_Fu_convertToWord 18 = .ok (.aload_n 0, 1) := by decide +kernel
theorem d_Fu_convertToWord_19 : decode b_Fu_convertToWord 19 = .ok (.iload_n 1, 1) := by decide +kernel
theorem d_Fu_convertToWord_20 : decode b_Fu_convertToWord 20 = .ok (.invokestatic 53, 3) := by decide +kernel
theorem d_Fu_convertToWord_23 : decode b_Fu_convertToWord 23 = .ok (.iload_n 2, 1) := by decide +kernel
theorem d_Fu_convertToWord_24 : decode b_Fu_convertToWord 24 = .ok (.invokevirtual 66, 3) := by decide +kernel
theorem d_Fu_convertToWord_27 : decode b_Fu_convertToWord 27 = .ok (.iload_n 2, 1) := by decide +kernel
theorem d_Fu_convertToWord_28 : decode b_Fu_convertToWord 28 = .ok (.invokevirtual 70, 3) := by decide +kernel
theorem d_Fu_convertToWord_31 : decode b_Fu_convertToWord 31 = .ok (.aload_n 0, 1) := by decide +kernel
theorem d_Fu_convertToWord_32 : decode b_Fu_convertToWord 32 = .ok (.getfield 9, 3) := by decide +kernel
theorem d_Fu_convertToWord_35 : decode b_Fu_convertToWord 35 = .ok (.iload_n 1, 1) := by decide +kernel
theorem d_Fu_convertToWord_36 : decode b_Fu_convertToWord 36 = .ok (.invokestatic 59, 3) := by decide +kernel
theorem d_Fu_convertToWord_39 : decode b_Fu_convertToWord 39 = .ok (.aload_n 0, 1) := by decide +kernel
theorem d_Fu_convertToWord_40 : decode b_Fu_convertToWord 40 = .ok (.getfield 18, 3) := by decide +kernel
theorem d_Fu_convertToWord_43 : decode b_Fu_convertToWord 43 = .ok (.iload_n 1, 1) := by decide +kernel
theorem d_Fu_convertToWord_44 : decode b_Fu_convertToWord 44 = .ok (.iconst 3, 1) := by decide +kernel
theorem d_Fu_convertToWord_45 : decode b_Fu_convertToWord 45 = .ok (.iand, 1) := by decide +kernel
theorem d_Fu_convertToWord_46 : decode b_Fu_convertToWord 46 = .ok (.invokevirtual 109, 3) := by decide +kernel
theorem d_Fu_convertToWord_49 : decode b_Fu_convertToWord 49 = .ok (.iastore, 1) := by decide +kernel
theorem d_Fu_convertToWord_50 : decode b_Fu_convertToWord 50 = .ok (.iconst 0, 1) := by decide +kernel
theorem d_Fu_convertToWord_51 : decode b_Fu_convertToWord 51 = .ok (.ireturn, 1) := by decide +kernel
theorem d_Fu_moveIf_0 : decode b_Fu_moveIf 0 = .ok (.iload_n 2, 1) := by decide +kernel
theorem d_Fu_moveIf_1 : decode b_Fu_moveIf 1 = .ok (.iload_n 1, 1) := by decide +kernel
theorem d_Fu_moveIf_2 : decode b_Fu_moveIf 2 = .ok (.invokestatic 53, 3) := by decide +kernel
theorem d_Fu_moveIf_5 : decode b_Fu_moveIf 5 = .ok (.iload_n 1, 1) := by decide +kernel
theorem d_Fu_moveIf_6 : decode b_Fu_moveIf 6 = .ok (.invokestatic 59, 3) := by decide +kernel
theorem d_Fu_moveIf_9 : decode b_Fu_moveIf 9 = .ok (.ior, 1) := by decide +kernel
theorem d_Fu_moveIf_10 : decode b_Fu_moveIf 10 = .ok (.invokestatic 62, 3) := by decide +kernel
theorem d_Fu_moveIf_13 : decode b_Fu_moveIf 13 = .ok (.ifCond .eq 6, 3) := by decide +kernel
theorem d_Fu_moveIf_16 : decode b_Fu_moveIf 16 = .ok (.bipush 8, 2) := by decide +kernel
theorem d_Fu_moveIf_18 : decode b_Fu_moveIf 18 = .ok (.ireturn, 1) := by decide +kernel
theorem d_Fu_moveIf_19 : decode b_Fu_moveIf 19 = .ok (.iload_n 1, 1) := by decide +kernel
theorem d_Fu_moveIf_20 : decode b_Fu_moveIf 20 = .ok (.bipush 63, 2) := by decide +kernel
theorem d_Fu_moveIf_22 : decode b_Fu_moveIf 22 = .ok (.iand, 1) := by decide +kernel
theorem d_Fu_moveIf_23 : decode b_Fu_moveIf 23 = .ok (.istore 4, 2) := by decide +kernel
theorem d_Fu_moveIf_25 : decode b_Fu_moveIf 25 = .ok (.iload 4, 2) := by decide +kernel
theorem d_Fu_moveIf_27 : decode b_Fu_moveIf 27 = .ok (.bipush 18, 2) := by decide +kernel
theorem d_Fu_moveIf_29 : decode b_Fu_moveIf 29 = .ok (.if_icmp .ne 7, 3) := by decide +kernel
theorem d_Fu_moveIf_32 : decode b_Fu_moveIf 32 = .ok (.iload_n 3, 1) := by decide +kernel
theorem d_Fu_moveIf_33 : decode b_Fu_moveIf 33 = .ok (.ifCond .eq 29, 3) := by decide +kernel
theorem d_Fu_moveIf_36 : decode b_Fu_moveIf 36 = .ok (.iload 4, 2) := by decide +kernel
theorem d_Fu_moveIf_38 : decode b_Fu_moveIf 38 = .ok (.bipush 19, 2) := by decide +kernel
theorem d_Fu_moveIf_40 : decode b_Fu_moveIf 40 = .ok (.if_icmp .ne 7, 3) := by decide +kernel
theorem d_Fu_moveIf_43 : decode b_Fu_moveIf 43 = .ok (.iload_n 3, 1) := by decide +kernel
theorem d_Fu_moveIf_44 : decode b_Fu_moveIf 44 = .ok (.ifCond .ne 18, 3) := by decide +kernel
theorem d_Fu_moveIf_47 : decode b_Fu_moveIf 47 = .ok (.iload 4, 2) := by decide +kernel
theorem d_Fu_moveIf_49 : decode b_Fu_moveIf 49 = .ok (.bipush 17, 2) := by decide +kernel
theorem d_Fu_moveIf_51 : decode b_Fu_moveIf 51 = .ok (.if_icmp .ne 15, 3) := by decide +kernel
theorem d_Fu_moveIf_54 : decode b_Fu_moveIf 54 = .ok (.aload_n 0, 1) := by decide +kernel
theorem d_Fu_moveIf_55 : decode b_Fu_moveIf 55 = .ok (.iload_n 1, 1) := by decide +kernel
theorem d_Fu_moveIf_56 : decode b_Fu_moveIf 56 = .ok (.invokevirtual 101, 3) := by decide +kernel
theorem d_Fu_moveIf_59 : decode b_Fu_moveIf 59 = .ok (.ifCond .eq 7, 3) := by decide +kernel
theorem d_Fu_moveIf_62 : decode b_Fu_moveIf 62 = .ok (.iconst 1, 1) := by decide +kernel
theorem d_Fu_moveIf_63 : decode b_Fu_moveIf 63 = .ok (.goto 4, 3) := by decide +kernel
theorem d_Fu_moveIf_66 : decode b_Fu_moveIf 66 = .ok (.iconst 0, 1) := by decide +kernel
theorem d_Fu_moveIf_67 : decode b_Fu_moveIf 67 = .ok (.istore 5, 2) := by decide +kernel
theorem d_Fu_moveIf_69 : decode b_Fu_moveIf 69 = .ok (.iload 5, 2) := by decide +kernel
theorem d_Fu_moveIf_71 : decode b_Fu_moveIf 71 = .ok (.ifCond .eq 21, 3) := by decide +kernel
theorem d_Fu_moveIf_74 : decode b_Fu_moveIf 74 = .ok (.aload_n 0, 1) := by decide +kernel
theorem d_Fu_moveIf_75 : decode b_Fu_moveIf 75 = .ok (.iload_n 1, 1) := by decide +kernel
theorem d_Fu_moveIf_76 : decode b_Fu_moveIf 76 = .ok (.aload_n 0, 1) := by decide +kernel
theorem d_Fu_moveIf_77 : decode b_Fu_moveIf 77 = .ok (.iload_n 1, 1) := by decide +kernel
theorem d_Fu_moveIf_78 : decode b_Fu_moveIf 78 = .ok (.invokestatic 53, 3) := by decide +kernel
theorem d_Fu_moveIf_81 : decode b_Fu_moveIf 81 = .ok (.iload_n 2, 1) := by decide +kernel
theorem d_Fu_moveIf_82 : decode b_Fu_moveIf 82 = .ok (.invokevirtual 66, 3) := by decide +kernel
theorem d_Fu_moveIf_85 : decode b_Fu_moveIf 85 = .ok (.iload_n 2, 1) := by decide +kernel
theorem d_Fu_moveIf_86 : decode b_Fu_moveIf 86 = .ok (.invokevirtual 91, 3) := by decide +kernel
theorem d_Fu_moveIf_89 : decode b_Fu_moveIf 89 = .ok (.goto 4, 3) := by decide +kernel
theorem d_Fu_moveIf_92 : decode b_Fu_moveIf 92 = .ok (.iconst 0, 1) := by decide +kernel
theorem d_Fu_moveIf_93 : decode b_Fu_moveIf 93 = .ok (.ireturn, 1) := by decide +kernel
theorem d_Fu_convert_0 : decode b_Fu_convert 0 = .ok (.iload_n 2, 1) := by decide +kernel
theorem d_Fu_convert_1 : decode b_Fu_convert 1 = .ok (.iload_n 1, 1) := by decide +kernel
theorem d_Fu_convert_2 : decode b_Fu_convert 2 = .ok (.invokestatic 53, 3) := by decide +kernel
theorem d_Fu_convert_5 : decode b_Fu_convert 5 = .ok (.invokestatic 62, 3) := by decide +kernel
theorem d_Fu_convert_8 : decode b_Fu_convert 8 = .ok (.ifCond .ne 22, 3) := by decide +kernel
theorem d_Fu_convert_11 : decode b_Fu_convert 11 = .ok (.iload_n 2, 1) := by decide +kernel
theorem d_Fu_convert_12 : decode b_Fu_convert 12 = .ok (.ifCond .ne 7, 3) := by decide +kernel
theorem d_Fu_convert_15 : decode b_Fu_convert 15 = .ok (.iconst 1, 1) := by decide +kernel
theorem d_Fu_convert_16 : decode b_Fu_convert 16 = .ok (.goto 4, 3) := by decide +kernel
theorem d_Fu_convert_19 : decode b_Fu_convert 19 = .ok (.iconst 0, 1) := by decide +kernel
theorem d_Fu_convert_20 : decode b_Fu_convert 20 = .ok (.iload_n 1, 1) := by decide +kernel
theorem d_Fu_convert_21 : decode b_Fu_convert 21 = .ok (.invokestatic 59, 3) := by decide +kernel
theorem d_Fu_convert_24 : decode b_Fu_convert 24 = .ok (.invokestatic 62, 3) := by decide +kernel
theorem d_Fu_convert_27 : decode b_Fu_convert 27 = .ok (.ifCond .eq 6, 3) := by decide +kernel
theorem d_Fu_convert_30 : decode b_Fu_convert 30 = .ok (.bipush 8, 2) := by decide +kernel
theorem d_Fu_convert_32 : decode b_Fu_convert 32 = .ok (.ireturn, 1) := by decide +kernel
theorem d_Fu_convert_33 : decode b_Fu_convert 33 = .ok (.aload_n 0, 1) := by decide +kernel
theorem d_Fu_convert_34 : decode b_Fu_convert 34 = .ok (.getfield 18, 3) := by decide +kernel
theorem d_Fu_convert_37 : decode b_Fu_convert 37 = .ok (.aload_n 0, 1) := by decide +kernel
theorem d_Fu_convert_38 : decode b_Fu_convert 38 = .ok (.iload_n 1, 1) := by decide +kernel
theorem d_Fu_convert_39 : decode b_Fu_convert 39 = .ok (.invokestatic 53, 3) := by decide +kernel
theorem d_Fu_convert_42 : decode b_Fu_convert 42 = .ok (.iload_n 2, 1) := by decide +kernel
theorem d_Fu_convert_43 : decode b_Fu_convert 43 = .ok (.invokevirtual 66, 3) := by decide +kernel
theorem d_Fu_convert_46 : decode b_Fu_convert 46 = .ok (.iload_n 2, 1) := by decide +kernel
theorem d_Fu_convert_47 : decode b_Fu_convert 47 = .ok (.invokevirtual 70, 3) := by decide +kernel
theorem d_Fu_convert_50 : decode b_Fu_convert 50 = .ok (.aload_n 0, 1) := by decide +kernel
theorem d_Fu_convert_51 : decode b_Fu_convert 51 = .ok (.iload_n 1, 1) := by decide +kernel
theorem d_Fu_convert_52 : decode b_Fu_convert 52 = .ok (.aload_n 0, 1) := by decide +kernel
theorem d_Fu_convert_53 : decode b_Fu_convert 53 = .ok (.getfield 18, 3) := by decide +kernel
theorem d_Fu_convert_56 : decode b_Fu_convert 56 = .ok (.iload_n 2, 1) := by decide +kernel
theorem d_Fu_convert_57 : decode b_Fu_convert 57 = .ok (.ifCond .ne 7, 3) := by decide +kernel
theorem d_Fu_convert_60 : decode b_Fu_convert 60 = .ok (.iconst 1, 1) := by decide +kernel
theorem d_Fu_convert_61 : decode b_Fu_convert 61 = .ok (.goto 4, 3) := by decide +kernel
theorem d_Fu_convert_64 : decode b_Fu_convert 64 = .ok (.iconst 0, 1) := by decide +kernel
theorem d_Fu_convert_65 : decode b_Fu_convert 65 = .ok (.invokevirtual 87, 3) := by decide +kernel
theorem d_Fu_convert_68 : decode b_Fu_convert 68 = .ok (.iload_n 2, 1) := by decide +kernel
theorem d_Fu_convert_69 : decode b_Fu_convert 69 = .ok (.ifCond .ne 7, 3) := by decide +kernel
theorem d_Fu_convert_72 : decode b_Fu_convert 72 = .ok (.iconst 1, 1) := by decide +kernel
theorem d_Fu_convert_73 : decode b_Fu_convert 73 = .ok (.goto 4, 3) := by decide +kernel
theorem d_Fu_convert_76 : decode b_Fu_convert 76 = .ok (.iconst 0, 1) := by decide +kernel
theorem d_Fu_convert_77 : decode b_Fu_convert 77 = .ok (.invokevirtual 91, 3) := by decide +kernel
theorem d_Fu_convert_80 : decode b_Fu_convert 80 = .ok (.ireturn, 1) := by decide +kernel
theorem d_Fu_perform_0 : decode b_Fu_perform 0 = .ok (.iload_n 1, 1) := by decide +kernel
theorem d_Fu_perform_1 : decode b_Fu_perform 1 = .ok (.bipush 21, 2) := by decide +kernel
theorem d_Fu_perform_3 : decode b_Fu_perform 3 = .ok (.iushr, 1) := by decide +kernel
theorem d_Fu_perform_4 : decode b_Fu_perform 4 = .ok (.bipush 31, 2) := by decide +kernel
theorem d_Fu_perform_6 : decode b_Fu_perform 6 = .ok (.iand, 1) := by decide +kernel
theorem d_Fu_perform_7 : decode b_Fu_perform 7 = .ok (.istore_n 3, 1) := by decide +kernel
theorem d_Fu_perform_8 : decode b_Fu_perform 8 = .ok (.iload_n 3, 1) := by decide +kernel
theorem d_Fu_perform_9 : decode b_Fu_perform 9 = .ok (.bipush 20, 2) := by decide +kernel
theorem d_Fu_perform_11 : decode b_Fu_perform 11 = .ok (.if_icmp .ne 9, 3) := by decide +kernel
theorem d_Fu_perform_14 : decode b_Fu_perform 14 = .ok (.aload_n 0, 1) := by decide +kernel
theorem d_Fu_perform_15 : decode b_Fu_perform 15 = .ok (.iload_n 1, 1) := by decide +kernel
theorem d_Fu_perform_16 : decode b_Fu_perform 16 = .ok (.invokevirtual 29, 3) := by decide +kernel
theorem d_Fu_perform_19 : decode b_Fu_perform 19 = .ok (.ireturn, 1) := by decide +kernel
theorem d_Fu_perform_20 : decode b_Fu_perform 20 = .ok (.iload_n 3, 1) := by decide +kernel
theorem d_Fu_perform_21 : decode b_Fu_perform 21 = .ok (.bipush 16, 2) := by decide +kernel
theorem d_Fu_perform_23 : decode b_Fu_perform 23 = .ok (.if_icmp .eq 11, 3) := by decide +kernel
theorem d_Fu_perform_26 : decode b_Fu_perform 26 = .ok (.iload_n 3, 1) := by decide +kernel
theorem d_Fu_perform_27 : decode b_Fu_perform 27 = .ok (.bipush 17, 2) := by decide +kernel
theorem d_Fu_perform_29 : decode b_Fu_perform 29 = .ok (.if_icmp .eq 5, 3) := by decide +kernel
theorem d_Fu_perform_32 : decode b_Fu_perform 32 = .ok (.iconst 3, 1) := by decide +kernel
theorem d_Fu_perform_33 : decode b_Fu_perform 33 = .ok (.ireturn, 1) := by decide +kernel
theorem d_Fu_perform_34 : decode b_Fu_perform 34 = .ok (.iload_n 3, 1) := by decide +kernel
theorem d_Fu_perform_35 : decode b_Fu_perform 35 = .ok (.bipush 17, 2) := by decide +kernel
theorem d_Fu_perform_37 : decode b_Fu_perform 37 = .ok (.if_icmp .ne 7, 3) := by decide +kernel
theorem d_Fu_perform_40 : decode b_Fu_perform 40 = .ok (.iconst 1, 1) := by decide +kernel
theorem d_Fu_perform_41 : decode b_Fu_perform 41 = .ok (.goto 4, 3) := by decide +kernel
theorem d_Fu_perform_44 : decode b_Fu_perform 44 = .ok (.iconst 0, 1) := by decide +kernel
theorem d_Fu_perform_45 : decode b_Fu_perform 45 = .ok (.istore 4, 2) := by decide +kernel
theorem d_Fu_perform_47 : decode b_Fu_perform 47 = .ok (.iload_n 1, 1) := by decide +kernel
theorem d_Fu_perform_48 : decode b_Fu_perform 48 = .ok (.bipush 63, 2) := by decide +kernel
theorem d_Fu_perform_50 : decode b_Fu_perform 50 = .ok (.iand, 1) := by decide +kernel
theorem d_Fu_perform_51 : decode b_Fu_perform 51 = .ok (.istore 5, 2) := by decide +kernel
theorem d_Fu_perform_53 : decode b_Fu_perform 53 = .ok (.iload 5, 2) := by decide +kernel
theorem d_Fu_perform_55 : decode b_Fu_perform 55 = .ok (.iconst 3, 1) := by decide +kernel
theorem d_Fu_perform_56 : decode b_Fu_perform 56 = .ok (.if_icmp .gt 11, 3) := by decide +kernel
theorem d_Fu_perform_59 : decode b_Fu_perform 59 = .ok (.aload_n 0, 1) := by decide +kernel
theorem d_Fu_perform_60 : decode b_Fu_perform 60 = .ok (.iload_n 1, 1) := by decide +kernel
theorem d_Fu_perform_61 : decode b_Fu_perform 61 = .ok (.iload 4, 2) := by decide +kernel
theorem d_Fu_perform_63 : decode b_Fu_perform 63 = .ok (.invokevirtual 33, 3) := by decide +kernel
theorem d_Fu_perform_66 : decode b_Fu_perform 66 = .ok (.ireturn, 1) := by decide +kernel
theorem d_Fu_perform_67 : decode b_Fu_perform 67 = .ok (.iload 5, 2) := by decide +kernel
theorem d_Fu_perform_69 : decode b_Fu_perform 69 = .ok (.bipush 7, 2) := by decide +kernel
theorem d_Fu_perform_71 : decode b_Fu_perform 71 = .ok (.if_icmp .gt 11, 3) := by decide +kernel
theorem d_Fu_perform_74 : decode b_Fu_perform 74 = .ok (.aload_n 0, 1) := by decide +kernel
theorem d_Fu_perform_75 : decode b_Fu_perform 75 = .ok (.iload_n 1, 1) := by decide +kernel
theorem d_Fu_perform_76 : decode b_Fu_perform 76 = .ok (.iload 4, 2) := by decide +kernel
theorem d_Fu_perform_78 : decode b_Fu_perform 78 = .ok (.invokevirtual 37, 3) := by decide +kernel
theorem d_Fu_perform_81 : decode b_Fu_perform 81 = .ok (.ireturn, 1) := by decide +kernel
theorem d_Fu_perform_82 : decode b_Fu_perform 82 = .ok (.iload 5, 2) := by decide +kernel
theorem d_Fu_perform_84 : decode b_Fu_perform 84 = .ok (.bipush 48, 2) := by decide +kernel
theorem d_Fu_perform_86 : decode b_Fu_perform 86 = .ok (.if_icmp .lt 11, 3) := by decide +kernel
theorem d_Fu_perform_89 : decode b_Fu_perform 89 = .ok (.aload_n 0, 1) := by decide +kernel
theorem d_Fu_perform_90 : decode b_Fu_perform 90 = .ok (.iload_n 1, 1) := by decide +kernel
theorem d_Fu_perform_91 : decode b_Fu_perform 91 = .ok (.iload 4, 2) := by decide +kernel
theorem d_Fu_perform_93 : decode b_Fu_perform 93 = .ok (.invokevirtual 40, 3) := by decide +kernel
theorem d_Fu_perform_96 : decode b_Fu_perform 96 = .ok (.ireturn, 1) := by decide +kernel
theorem d_Fu_perform_97 : decode b_Fu_perform 97 = .ok (.iload 5, 2) := by decide +kernel
theorem d_Fu_perform_99 : decode b_Fu_perform 99 = .ok (.bipush 12, 2) := by decide +kernel
theorem d_Fu_perform_101 : decode b_Fu_perform 101 = .ok (.if_icmp .lt 10, 3) := by decide +kernel
theorem d_Fu_perform_104 : decode b_Fu_perform 104 = .ok (.iload 5, 2) := by decide +kernel
theorem d_Fu_perform_106 : decode b_Fu_perform 106 = .ok (.bipush 15, 2) := by decide +kernel
theorem d_Fu_perform_108 : decode b_Fu_perform 108 = .ok (.if_icmp .le 10, 3) := by decide +kernel
theorem d_Fu_perform_111 : decode b_Fu_perform 111 = .ok (.iload 5, 2) := by decide +kernel
theorem d_Fu_perform_113 : decode b_Fu_perform 113 = .ok (.bipush 36, 2) := by decide +kernel
theorem d_Fu_perform_115 : decode b_Fu_perform 115 = .ok (.if_icmp .ne 11, 3) := by decide +kernel
theorem d_Fu_perform_118 : decode b_Fu_perform 118 = .ok (.aload_n 0, 1) := by decide +kernel
theorem d_Fu_perform_119 : decode b_Fu_perform 119 = .ok (.iload_n 1, 1) := by decide +kernel
theorem d_Fu_perform_120 : decode b_Fu_perform 120 = .ok (.iload 4, 2) := by decide +kernel
theorem d_Fu_perform_122 : decode b_Fu_perform 122 = .ok (.invokevirtual 43, 3) := by decide +kernel
theorem d_Fu_perform_125 : decode b_Fu_perform 125 = .ok (.ireturn, 1) := by decide +kernel
theorem d_Fu_perform_126 : decode b_Fu_perform 126 = .ok (.iload 5, 2) := by decide +kernel
theorem d_Fu_perform_128 : decode b_Fu_perform 128 = .ok (.bipush 17, 2) := by decide +kernel
theorem d_Fu_perform_130 : decode b_Fu_perform 130 = .ok (.if_icmp .lt 19, 3) := by decide +kernel
theorem d_Fu_perform_133 : decode b_Fu_perform 133 = .ok (.iload 5, 2) := by decide +kernel
theorem d_Fu_perform_135 : decode b_Fu_perform 135 = .ok (.bipush 19, 2) := by decide +kernel
theorem d_Fu_perform_137 : decode b_Fu_perform 137 = .ok (.if_icmp .gt 12, 3) := by decide +kernel
theorem d_Fu_perform_140 : decode b_Fu_perform 140 = .ok (.aload_n 0, 1) := by decide +kernel
theorem d_Fu_perform_141 : decode b_Fu_perform 141 = .ok (.iload_n 1, 1) := by decide +kernel
theorem d_Fu_perform_142 : decode b_Fu_perform 142 = .ok (.iload 4, 2) := by decide +kernel
theorem d_Fu_perform_144 : decode b_Fu_perform 144 = .ok (.iload_n 2, 1) := by decide +kernel
theorem d_Fu_perform_145 : decode b_Fu_perform 145 = .ok (.invokevirtual 46, 3) := by decide +kernel
theorem d_Fu_perform_148 : decode b_Fu_perform 148 = .ok (.ireturn, 1) := by decide +kernel
theorem d_Fu_perform_149 : decode b_Fu_perform 149 = .ok (.iload 5, 2) := by decide +kernel
theorem d_Fu_perform_151 : decode b_Fu_perform 151 = .ok (.iload 4, 2) := by decide +kernel
theorem d_Fu_perform_153 : decode b_Fu_perform 153 = .ok (.ifCond .eq 8, 3) := by decide +kernel
theorem d_Fu_perform_156 : decode b_Fu_perform 156 = .ok (.bipush 32, 2) := by decide +kernel
theorem d_Fu_perform_158 : decode b_Fu_perform 158 = .ok (.goto 5, 3) := by decide +kernel
theorem d_Fu_perform_161 : decode b_Fu_perform 161 = .ok (.bipush 33, 2) := by decide +kernel
theorem d_Fu_perform_163 : decode b_Fu_perform 163 = .ok (.if_icmp .ne 11, 3) := by decide +kernel
theorem d_Fu_perform_166 : decode b_Fu_perform 166 = .ok (.aload_n 0, 1) := by decide +kernel
theorem d_Fu_perform_167 : decode b_Fu_perform 167 = .ok (.iload_n 1, 1) := by decide +kernel
theorem d_Fu_perform_168 : decode b_Fu_perform 168 = .ok (.iload 4, 2) := by decide +kernel
theorem d_Fu_perform_170 : decode b_Fu_perform 170 = .ok (.invokevirtual 50, 3) := by decide +kernel
theorem d_Fu_perform_173 : decode b_Fu_perform 173 = .ok (.ireturn, 1) := by decide +kernel
theorem d_Fu_perform_174 : decode b_Fu_perform 174 = .ok (.iconst 3, 1) := by decide +kernel
theorem d_Fu_perform_175 : decode b_Fu_perform 175 = .ok (.ireturn, 1) := by decide +kernel
theorem d_Pr_opcode_0 : decode b_Pr_opcode 0 = .ok (.iload_n 0, 1) := by decide +kernel
theorem d_Pr_opcode_1 : decode b_Pr_opcode 1 = .ok (.bipush 26, 2) := by decide +kernel
theorem d_Pr_opcode_3 : decode b_Pr_opcode 3 = .ok (.iushr, 1) := by decide +kernel
theorem d_Pr_opcode_4 : decode b_Pr_opcode 4 = .ok (.ireturn, 1) := by decide +kernel
theorem d_Pr_bytes_0 : decode b_Pr_bytes 0 = .ok (.iload_n 0, 1) := by decide +kernel
theorem d_Pr_bytes_1 : decode b_Pr_bytes 1 = .ok (.invokestatic 71, 3) := by decide +kernel
theorem d_Pr_bytes_4 : decode b_Pr_bytes 4 = .ok (.iconst 3, 1) := by decide +kernel
theorem d_Pr_bytes_5 : decode b_Pr_bytes 5 = .ok (.iand, 1) := by decide +kernel
theorem d_Pr_bytes_6 : decode b_Pr_bytes 6 = .ok (.iconst 1, 1) := by decide +kernel
theorem d_Pr_bytes_7 : decode b_Pr_bytes 7 = .ok (.iadd, 1) := by decide +kernel
theorem d_Pr_bytes_8 : decode b_Pr_bytes 8 = .ok (.ireturn, 1) := by decide +kernel
theorem d_Pr_function_0 : decode b_Pr_function 0 = .ok (.iload_n 0, 1) := by decide +kernel
theorem d_Pr_function_1 : decode b_Pr_function 1 = .ok (.bipush 63, 2) := by decide +kernel
theorem d_Pr_function_3 : decode b_Pr_function 3 = .ok (.iand, 1) := by decide +kernel
theorem d_Pr_function_4 : decode b_Pr_function 4 = .ok (.ireturn, 1) := by decide +kernel
theorem d_Pr_rs_0 : decode b_Pr_rs 0 = .ok (.iload_n 0, 1) := by decide +kernel
theorem d_Pr_rs_1 : decode b_Pr_rs 1 = .ok (.bipush 21, 2) := by decide +kernel
theorem d_Pr_rs_3 : decode b_Pr_rs 3 = .ok (.iushr, 1) := by decide +kernel
theorem d_Pr_rs_4 : decode b_Pr_rs 4 = .ok (.bipush 31, 2) := by decide +kernel
theorem d_Pr_rs_6 : decode b_Pr_rs 6 = .ok (.iand, 1) := by decide +kernel
theorem d_Pr_rs_7 : decode b_Pr_rs 7 = .ok (.ireturn, 1) := by decide +kernel
theorem d_Pr_rt_0 : decode b_Pr_rt 0 = .ok (.iload_n 0, 1) := by decide +kernel
theorem d_Pr_rt_1 : decode b_Pr_rt 1 = .ok (.bipush 16, 2) := by decide +kernel
theorem d_Pr_rt_3 : decode b_Pr_rt 3 = .ok (.iushr, 1) := by decide +kernel
theorem d_Pr_rt_4 : decode b_Pr_rt 4 = .ok (.bipush 31, 2) := by decide +kernel
theorem d_Pr_rt_6 : decode b_Pr_rt 6 = .ok (.iand, 1) := by decide +kernel
theorem d_Pr_rt_7 : decode b_Pr_rt 7 = .ok (.ireturn, 1) := by decide +kernel
theorem d_Pr_rd_0 : decode b_Pr_rd 0 = .ok (.iload_n 0, 1) := by decide +kernel
theorem d_Pr_rd_1 : decode b_Pr_rd 1 = .ok (.bipush 11, 2) := by decide +kernel
theorem d_Pr_rd_3 : decode b_Pr_rd 3 = .ok (.iushr, 1) := by decide +kernel
theorem d_Pr_rd_4 : decode b_Pr_rd 4 = .ok (.bipush 31, 2) := by decide +kernel
theorem d_Pr_rd_6 : decode b_Pr_rd 6 = .ok (.iand, 1) := by decide +kernel
theorem d_Pr_rd_7 : decode b_Pr_rd 7 = .ok (.ireturn, 1) := by decide +kernel
theorem d_Pr_signed_0 : decode b_Pr_signed 0 = .ok (.iload_n 0, 1) := by decide +kernel
theorem d_Pr_signed_1 : decode b_Pr_signed 1 = .ok (.i2s, 1) := by decide +kernel
theorem d_Pr_signed_2 : decode b_Pr_signed 2 = .ok (.ireturn, 1) := by decide +kernel
theorem d_Pr_unsigned_0 : decode b_Pr_unsigned 0 = .ok (.iload_n 0, 1) := by decide +kernel
theorem d_Pr_unsigned_1 : decode b_Pr_unsigned 1 = .ok (.i2l, 1) := by decide +kernel
theorem d_Pr_unsigned_2 : decode b_Pr_unsigned 2 = .ok (.ldc2_w 283, 3) := by decide +kernel
theorem d_Pr_unsigned_5 : decode b_Pr_unsigned 5 = .ok (.land, 1) := by decide +kernel
theorem d_Pr_unsigned_6 : decode b_Pr_unsigned 6 = .ok (.lreturn, 1) := by decide +kernel
theorem d_JI_bitCount_0 : decode b_JI_bitCount 0 = .ok (.iload_n 0, 1) := by decide +kernel
theorem d_JI_bitCount_1 : decode b_JI_bitCount 1 = .ok (.iload_n 0, 1) := by decide +kernel
theorem d_JI_bitCount_2 : decode b_JI_bitCount 2 = .ok (.iconst 1, 1) := by decide +kernel
theorem d_JI_bitCount_3 : decode b_JI_bitCount 3 = .ok (.iushr, 1) := by decide +kernel
theorem d_JI_bitCount_4 : decode b_JI_bitCount 4 = .ok (.ldc_w 265, 3) := by decide +kernel
theorem d_JI_bitCount_7 : decode b_JI_bitCount 7 = .ok (.iand, 1) := by decide +kernel
theorem d_JI_bitCount_8 : decode b_JI_bitCount 8 = .ok (.isub, 1) := by decide +kernel
theorem d_JI_bitCount_9 : decode b_JI_bitCount 9 = .ok (.istore_n 0, 1) := by decide +kernel
theorem d_JI_bitCount_10 : decode b_JI_bitCount 10 = .ok (.iload_n 0, 1) := by decide +kernel
theorem d_JI_bitCount_11 : decode b_JI_bitCount 11 = .ok (.ldc_w 266, 3) := by decide +kernel
theorem d_JI_bitCount_14 : decode b_JI_bitCount 14 = .ok (.iand, 1) := by decide +kernel
