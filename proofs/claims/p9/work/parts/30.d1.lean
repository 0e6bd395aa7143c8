theorem d_Md_thrown_0 : decode b_Md_thrown 0 = .ok (.aload_n 0, 1) := by decide +kernel
theorem d_Md_thrown_1 : decode b_Md_thrown 1 = .ok (.getfield 35, 3) := by decide +kernel
theorem d_Md_thrown_4 : decode b_Md_thrown 4 = .ok (.ireturn, 1) := by decide +kernel
theorem d_Md_fail_0 : decode b_Md_fail 0 = .ok (.aload_n 0, 1) := by decide +kernel
theorem d_Md_fail_1 : decode b_Md_fail 1 = .ok (.iload_n 1, 1) := by decide +kernel
theorem d_Md_fail_2 : decode b_Md_fail 2 = .ok (.putfield 35, 3) := by decide +kernel
theorem d_Md_fail_5 : decode b_Md_fail 5 = .ok (.iconst 0, 1) := by decide +kernel
theorem d_Md_fail_6 : decode b_Md_fail 6 = .ok (.ireturn, 1) := by decide +kernel
theorem d_Md_good_0 : decode b_Md_good 0 = .ok (.iload_n 1, 1) := by decide +kernel
theorem d_Md_good_1 : decode b_Md_good 1 = .ok (.ifCond .lt 23, 3) := by decide +kernel
theorem d_Md_good_4 : decode b_Md_good 4 = .ok (.iload_n 1, 1) := by decide +kernel
theorem d_Md_good_5 : decode b_Md_good 5 = .ok (.iload_n 2, 1) := by decide +kernel
theorem d_Md_good_6 : decode b_Md_good 6 = .ok (.irem, 1) := by decide +kernel
theorem d_Md_good_7 : decode b_Md_good 7 = .ok (.ifCond .ne 17, 3) := by decide +kernel
theorem d_Md_good_10 : decode b_Md_good 10 = .ok (.iload_n 1, 1) := by decide +kernel
theorem d_Md_good_11 : decode b_Md_good 11 = .ok (.aload_n 0, 1) := by decide +kernel
theorem d_Md_good_12 : decode b_Md_good 12 = .ok (.getfield 32, 3) := by decide +kernel
theorem d_Md_good_15 : decode b_Md_good 15 = .ok (.iload_n 2, 1) := by decide +kernel
theorem d_Md_good_16 : decode b_Md_good 16 = .ok (.isub, 1) := by decide +kernel
theorem d_Md_good_17 : decode b_Md_good 17 = .ok (.if_icmp .gt 7, 3) := by decide +kernel
theorem d_Md_good_20 : decode b_Md_good 20 = .ok (.iconst 1, 1) := by decide +kernel
theorem d_Md_good_21 : decode b_Md_good 21 = .ok (.goto 4, 3) := by decide +kernel
theorem d_Md_good_24 : decode b_Md_good 24 = .ok (.iconst 0, 1) := by decide +kernel
theorem d_Md_good_25 : decode b_Md_good 25 = .ok (.ireturn, 1) := by decide +kernel
theorem d_Md_part_0 : decode b_Md_part 0 = .ok (.iconst 0, 1) := by decide +kernel
theorem d_Md_part_1 : decode b_Md_part 1 = .ok (.istore_n 3, 1) := by decide +kernel
theorem d_Md_part_2 : decode b_Md_part 2 = .ok (.iconst 0, 1) := by decide +kernel
theorem d_Md_part_3 : decode b_Md_part 3 = .ok (.istore 4, 2) := by decide +kernel
theorem d_Md_part_5 : decode b_Md_part 5 = .ok (.iload 4, 2) := by decide +kernel
theorem d_Md_part_7 : decode b_Md_part 7 = .ok (.iload_n 2, 1) := by decide +kernel
theorem d_Md_part_8 : decode b_Md_part 8 = .ok (.if_icmp .ge 28, 3) := by decide +kernel
theorem d_Md_part_11 : decode b_Md_part 11 = .ok (.iload_n 3, 1) := by decide +kernel
theorem d_Md_part_12 : decode b_Md_part 12 = .ok (.bipush 8, 2) := by decide +kernel
theorem d_Md_part_14 : decode b_Md_part 14 = .ok (.ishl, 1) := by decide +kernel
theorem d_Md_part_15 : decode b_Md_part 15 = .ok (.aload_n 0, 1) := by decide +kernel
theorem d_Md_part_16 : decode b_Md_part 16 = .ok (.getfield 8, 3) := by decide +kernel
theorem d_Md_part_19 : decode b_Md_part 19 = .ok (.iload_n 1, 1) := by decide +kernel
theorem d_Md_part_20 : decode b_Md_part 20 = .ok (.iload 4, 2) := by decide +kernel
theorem d_Md_part_22 : decode b_Md_part 22 = .ok (.iadd, 1) := by decide +kernel
theorem d_Md_part_23 : decode b_Md_part 23 = .ok (.baload, 1) := by decide +kernel
theorem d_Md_part_24 : decode b_Md_part 24 = .ok (.sipush 255, 3) := by decide +kernel
theorem d_Md_part_27 : decode b_Md_part 27 = .ok (.iand, 1) := by decide +kernel
theorem d_Md_part_28 : decode b_Md_part 28 = .ok (.ior, 1) := by decide +kernel
theorem d_Md_part_29 : decode b_Md_part 29 = .ok (.istore_n 3, 1) := by decide +kernel
theorem d_Md_part_30 : decode b_Md_part 30 = .ok (.iinc 4 1, 3) := by decide +kernel
theorem d_Md_part_33 : decode b_Md_part 33 = .ok (.goto (-28), 3) := by decide +kernel
theorem d_Md_part_36 : decode b_Md_part 36 = .ok (.iload_n 3, 1) := by decide +kernel
theorem d_Md_part_37 : decode b_Md_part 37 = .ok (.ireturn, 1) := by decide +kernel
theorem d_Md_store_0 : decode b_Md_store 0 = .ok (.iconst 0, 1) := by decide +kernel
theorem d_Md_store_1 : decode b_Md_store 1 = .ok (.istore 4, 2) := by decide +kernel
theorem d_Md_store_3 : decode b_Md_store 3 = .ok (.iload 4, 2) := by decide +kernel
theorem d_Md_store_5 : decode b_Md_store 5 = .ok (.iload_n 2, 1) := by decide +kernel
theorem d_Md_store_6 : decode b_Md_store 6 = .ok (.if_icmp .ge 30, 3) := by decide +kernel
theorem d_Md_store_9 : decode b_Md_store 9 = .ok (.aload_n 0, 1) := by decide +kernel
theorem d_Md_store_10 : decode b_Md_store 10 = .ok (.getfield 8, 3) := by decide +kernel
theorem d_Md_store_13 : decode b_Md_store 13 = .ok (.iload_n 1, 1) := by decide +kernel
theorem d_Md_store_14 : decode b_Md_store 14 = .ok (.iload 4, 2) := by decide +kernel
theorem d_Md_store_16 : decode b_Md_store 16 = .ok (.iadd, 1) := by decide +kernel
theorem d_Md_store_17 : decode b_Md_store 17 = .ok (.iload_n 3, 1) := by decide +kernel
theorem d_Md_store_18 : decode b_Md_store 18 = .ok (.bipush 8, 2) := by decide +kernel
theorem d_Md_store_20 : decode b_Md_store 20 = .ok (.iload_n 2, 1) := by decide +kernel
theorem d_Md_store_21 : decode b_Md_store 21 = .ok (.iconst 1, 1) := by decide +kernel
theorem d_Md_store_22 : decode b_Md_store 22 = .ok (.isub, 1) := by decide +kernel
theorem d_Md_store_23 : decode b_Md_store 23 = .ok (.iload 4, 2) := by decide +kernel
theorem d_Md_store_25 : decode b_Md_store 25 = .ok (.isub, 1) := by decide +kernel
theorem d_Md_store_26 : decode b_Md_store 26 = .ok (.imul, 1) := by decide +kernel
theorem d_Md_store_27 : decode b_Md_store 27 = .ok (.ishr, 1) := by decide +kernel
theorem d_Md_store_28 : decode b_Md_store 28 = .ok (.i2b, 1) := by decide +kernel
theorem d_Md_store_29 : decode b_Md_store 29 = .ok (.bastore, 1) := by decide +kernel
theorem d_Md_store_30 : decode b_Md_store 30 = .ok (.iinc 4 1, 3) := by decide +kernel
theorem d_Md_store_33 : decode b_Md_store 33 = .ok (.goto (-30), 3) := by decide +kernel
theorem d_Md_store_36 : decode b_Md_store 36 = .ok (.return_, 1) := by decide +kernel
theorem d_Md_put_III_0 : decode b_Md_put_III 0 = .ok (.aload_n 0, 1) := by decide +kernel
theorem d_Md_put_III_1 : decode b_Md_put_III 1 = .ok (.iconst 0, 1) := by decide +kernel
theorem d_Md_put_III_2 : decode b_Md_put_III 2 = .ok (.putfield 35, 3) := by decide +kernel
theorem d_Md_put_III_5 : decode b_Md_put_III 5 = .ok (.aload_n 0, 1) := by decide +kernel
theorem d_Md_put_III_6 : decode b_Md_put_III 6 = .ok (.iload_n 1, 1) := by decide +kernel
theorem d_Md_put_III_7 : decode b_Md_put_III 7 = .ok (.iconst 4, 1) := by decide +kernel
theorem d_Md_put_III_8 : decode b_Md_put_III 8 = .ok (.invokevirtual 38, 3) := by decide +kernel
theorem d_Md_put_III_11 : decode b_Md_put_III 11 = .ok (.ifCond .ne 9, 3) := by decide +kernel
theorem d_Md_put_III_14 : decode b_Md_put_III 14 = .ok (.aload_n 0, 1) := by decide +kernel
theorem d_Md_put_III_15 : decode b_Md_put_III 15 = .ok (.iconst 1, 1) := by decide +kernel
theorem d_Md_put_III_16 : decode b_Md_put_III 16 = .ok (.invokevirtual 42, 3) := by decide +kernel
theorem d_Md_put_III_19 : decode b_Md_put_III 19 = .ok (.ireturn, 1) := by decide +kernel
theorem d_Md_put_III_20 : decode b_Md_put_III 20 = .ok (.aload_n 0, 1) := by decide +kernel
theorem d_Md_put_III_21 : decode b_Md_put_III 21 = .ok (.iload_n 1, 1) := by decide +kernel
theorem d_Md_put_III_22 : decode b_Md_put_III 22 = .ok (.iconst 4, 1) := by decide +kernel
theorem d_Md_put_III_23 : decode b_Md_put_III 23 = .ok (.invokevirtual 46, 3) := by decide +kernel
theorem d_Md_put_III_26 : decode b_Md_put_III 26 = .ok (.istore_n 3, 1) := by decide +kernel
theorem d_Md_put_III_27 : decode b_Md_put_III 27 = .ok (.aload_n 0, 1) := by decide +kernel
theorem d_Md_put_III_28 : decode b_Md_put_III 28 = .ok (.iload_n 1, 1) := by decide +kernel
theorem d_Md_put_III_29 : decode b_Md_put_III 29 = .ok (.iconst 4, 1) := by decide +kernel
theorem d_Md_put_III_30 : decode b_Md_put_III 30 = .ok (.iload_n 2, 1) := by decide +kernel
theorem d_Md_put_III_31 : decode b_Md_put_III 31 = .ok (.invokevirtual 50, 3) := by decide +kernel
theorem d_Md_put_III_34 : decode b_Md_put_III 34 = .ok (.iload_n 3, 1) := by decide +kernel
theorem d_Md_put_III_35 : decode b_Md_put_III 35 = .ok (.ireturn, 1) := by decide +kernel
theorem d_Md_word_0 : decode b_Md_word 0 = .ok (.aload_n 0, 1) := by decide +kernel
theorem d_Md_word_1 : decode b_Md_word 1 = .ok (.iconst 0, 1) := by decide +kernel
theorem d_Md_word_2 : decode b_Md_word 2 = .ok (.putfield 35, 3) := by decide +kernel
theorem d_Md_word_5 : decode b_Md_word 5 = .ok (.aload_n 0, 1) := by decide +kernel
theorem d_Md_word_6 : decode b_Md_word 6 = .ok (.iload_n 1, 1) := by decide +kernel
theorem d_Md_word_7 : decode b_Md_word 7 = .ok (.iconst 4, 1) := by decide +kernel
theorem d_Md_word_8 : decode b_Md_word 8 = .ok (.invokevirtual 38, 3) := by decide +kernel
theorem d_Md_word_11 : decode b_Md_word 11 = .ok (.ifCond .eq 12, 3) := by decide +kernel
theorem d_Md_word_14 : decode b_Md_word 14 = .ok (.aload_n 0, 1) := by decide +kernel
theorem d_Md_word_15 : decode b_Md_word 15 = .ok (.iload_n 1, 1) := by decide +kernel
theorem d_Md_word_16 : decode b_Md_word 16 = .ok (.iconst 4, 1) := by decide +kernel
theorem d_Md_word_17 : decode b_Md_word 17 = .ok (.invokevirtual 46, 3) := by decide +kernel
theorem d_Md_word_20 : decode b_Md_word 20 = .ok (.goto 8, 3) := by decide +kernel
theorem d_Md_word_23 : decode b_Md_word 23 = .ok (.aload_n 0, 1) := by decide +kernel
theorem d_Md_word_24 : decode b_Md_word 24 = .ok (.iconst 1, 1) := by decide +kernel
theorem d_Md_word_25 : decode b_Md_word 25 = .ok (.invokevirtual 42, 3) := by decide +kernel
theorem d_Md_word_28 : decode b_Md_word 28 = .ok (.ireturn, 1) := by decide +kernel
theorem d_Md_go_0 : decode b_Md_go 0 = .ok (.aload_n 0, 1) := by decide +kernel
theorem d_Md_go_1 : decode b_Md_go 1 = .ok (.iconst 0, 1) := by decide +kernel
theorem d_Md_go_2 : decode b_Md_go 2 = .ok (.putfield 35, 3) := by decide +kernel
theorem d_Md_go_5 : decode b_Md_go 5 = .ok (.iload_n 1, 1) := by decide +kernel
theorem d_Md_go_6 : decode b_Md_go 6 = .ok (.iconst 3, 1) := by decide +kernel
theorem d_Md_go_7 : decode b_Md_go 7 = .ok (.iand, 1) := by decide +kernel
theorem d_Md_go_8 : decode b_Md_go 8 = .ok (.ifCond .eq 9, 3) := by decide +kernel
theorem d_Md_go_11 : decode b_Md_go 11 = .ok (.aload_n 0, 1) := by decide +kernel
theorem d_Md_go_12 : decode b_Md_go 12 = .ok (.iconst 1, 1) := by decide +kernel
theorem d_Md_go_13 : decode b_Md_go 13 = .ok (.invokevirtual 42, 3) := by decide +kernel
theorem d_Md_go_16 : decode b_Md_go 16 = .ok (.ireturn, 1) := by decide +kernel
theorem d_Md_go_17 : decode b_Md_go 17 = .ok (.aload_n 0, 1) := by decide +kernel
theorem d_Md_go_18 : decode b_Md_go 18 = .ok (.getfield 54, 3) := by decide +kernel
theorem d_Md_go_21 : decode b_Md_go 21 = .ok (.istore_n 2, 1) := by decide +kernel
theorem d_Md_go_22 : decode b_Md_go 22 = .ok (.aload_n 0, 1) := by decide +kernel
theorem d_Md_go_23 : decode b_Md_go 23 = .ok (.iload_n 1, 1) := by decide +kernel
theorem d_Md_go_24 : decode b_Md_go 24 = .ok (.putfield 54, 3) := by decide +kernel
theorem d_Md_go_27 : decode b_Md_go 27 = .ok (.aload_n 0, 1) := by decide +kernel
theorem d_Md_go_28 : decode b_Md_go 28 = .ok (.iload_n 1, 1) := by decide +kernel
theorem d_Md_go_29 : decode b_Md_go 29 = .ok (.iconst 4, 1) := by decide +kernel
theorem d_Md_go_30 : decode b_Md_go 30 = .ok (.iadd, 1) := by decide +kernel
theorem d_Md_go_31 : decode b_Md_go 31 = .ok (.putfield 25, 3) := by decide +kernel
theorem d_Md_go_34 : decode b_Md_go 34 = .ok (.aload_n 0, 1) := by decide +kernel
theorem d_Md_go_35 : decode b_Md_go 35 = .ok (.iconst 0, 1) := by decide +kernel
theorem d_Md_go_36 : decode b_Md_go 36 = .ok (.putfield 57, 3) := by decide +kernel
theorem d_Md_go_39 : decode b_Md_go 39 = .ok (.aload_n 0, 1) := by decide +kernel
theorem d_Md_go_40 : decode b_Md_go 40 = .ok (.iconst 0, 1) := by decide +kernel
theorem d_Md_go_41 : decode b_Md_go 41 = .ok (.putfield 60, 3) := by decide +kernel
theorem d_Md_go_44 : decode b_Md_go 44 = .ok (.aload_n 0, 1) := by decide +kernel
theorem d_Md_go_45 : decode b_Md_go 45 = .ok (.iconst 0, 1) := by decide +kernel
theorem d_Md_go_46 : decode b_Md_go 46 = .ok (.putfield 63, 3) := by decide +kernel
theorem d_Md_go_49 : decode b_Md_go 49 = .ok (.iload_n 2, 1) := by decide +kernel
theorem d_Md_go_50 : decode b_Md_go 50 = .ok (.ireturn, 1) := by decide +kernel
theorem d_Md_set_0 : decode b_Md_set 0 = .ok (.aload_n 0, 1) := by decide +kernel
theorem d_Md_set_1 : decode b_Md_set 1 = .ok (.iconst 0, 1) := by decide +kernel
theorem d_Md_set_2 : decode b_Md_set 2 = .ok (.putfield 35, 3) := by decide +kernel
theorem d_Md_set_5 : decode b_Md_set 5 = .ok (.iload_n 1, 1) := by decide +kernel
theorem d_Md_set_6 : decode b_Md_set 6 = .ok (.ifCond .lt 9, 3) := by decide +kernel
theorem d_Md_set_9 : decode b_Md_set 9 = .ok (.iload_n 1, 1) := by decide +kernel
theorem d_Md_set_10 : decode b_Md_set 10 = .ok (.bipush 66, 2) := by decide +kernel
theorem d_Md_set_12 : decode b_Md_set 12 = .ok (.if_icmp .le 9, 3) := by decide +kernel
theorem d_Md_set_15 : decode b_Md_set 15 = .ok (.aload_n 0, 1) := by decide +kernel
theorem d_Md_set_16 : decode b_Md_set 16 = .ok (.iconst 1, 1) := by decide +kernel
theorem d_Md_set_17 : decode b_Md_set 17 = .ok (.invokevirtual 42, 3) := by decide +kernel
theorem d_Md_set_20 : decode b_Md_set 20 = .ok (.ireturn, 1) := by decide +kernel
theorem d_Md_set_21 : decode b_Md_set 21 = .ok (.iload_n 1, 1) := by decide +kernel
theorem d_Md_set_22 : decode b_Md_set 22 = .ok (.bipush 32, 2) := by decide +kernel
theorem d_Md_set_24 : decode b_Md_set 24 = .ok (.if_icmp .ne 10, 3) := by decide +kernel
theorem d_Md_set_27 : decode b_Md_set 27 = .ok (.aload_n 0, 1) := by decide +kernel
theorem d_Md_set_28 : decode b_Md_set 28 = .ok (.getfield 18, 3) := by decide +kernel
theorem d_Md_set_31 : decode b_Md_set 31 = .ok (.ifCond .eq 16, 3) := by decide +kernel
theorem d_Md_set_34 : decode b_Md_set 34 = .ok (.iload_n 1, 1) := by decide +kernel
theorem d_Md_set_35 : decode b_Md_set 35 = .ok (.bipush 33, 2) := by decide +kernel
theorem d_Md_set_37 : decode b_Md_set 37 = .ok (.if_icmp .ne 14, 3) := by decide +kernel
theorem d_Md_set_40 : decode b_Md_set 40 = .ok (.aload_n 0, 1) := by decide +kernel
theorem d_Md_set_41 : decode b_Md_set 41 = .ok (.getfield 22, 3) := by decide +kernel
theorem d_Md_set_44 : decode b_Md_set 44 = .ok (.ifCond .ne 7, 3) := by decide +kernel
theorem d_Md_set_47 : decode b_Md_set 47 = .ok (.iconst 0, 1) := by decide +kernel
theorem d_Md_set_48 : decode b_Md_set 48 = .ok (.goto 9, 3) := by decide +kernel
theorem d_Md_set_51 : decode b_Md_set 51 = .ok (.aload_n 0, 1) := by decide +kernel
theorem d_Md_set_52 : decode b_Md_set 52 = .ok (.getfield 14, 3) := by decide +kernel
theorem d_Md_set_55 : decode b_Md_set 55 = .ok (.iload_n 1, 1) := by decide +kernel
theorem d_Md_set_56 : decode b_Md_set 56 = .ok (.iaload, 1) := by decide +kernel
theorem d_Md_set_57 : decode b_Md_set 57 = .ok (.istore_n 3, 1) := by decide +kernel
theorem d_Md_set_58 : decode b_Md_set 58 = .ok (.iload_n 1, 1) := by decide +kernel
theorem d_Md_set_59 : decode b_Md_set 59 = .ok (.bipush 32, 2) := by decide +kernel
theorem d_Md_set_61 : decode b_Md_set 61 = .ok (.if_icmp .ne 8, 3) := by decide +kernel
theorem d_Md_set_64 : decode b_Md_set 64 = .ok (.aload_n 0, 1) := by decide +kernel
theorem d_Md_set_65 : decode b_Md_set 65 = .ok (.iconst 1, 1) := by decide +kernel
theorem d_Md_set_66 : decode b_Md_set 66 = .ok (.putfield 18, 3) := by decide +kernel
theorem d_Md_set_69 : decode b_Md_set 69 = .ok (.iload_n 1, 1) := by decide +kernel
theorem d_Md_set_70 : decode b_Md_set 70 = .ok (.bipush 33, 2) := by decide +kernel
theorem d_Md_set_72 : decode b_Md_set 72 = .ok (.if_icmp .ne 8, 3) := by decide +kernel
theorem d_Md_set_75 : decode b_Md_set 75 = .ok (.aload_n 0, 1) := by decide +kernel
theorem d_Md_set_76 : decode b_Md_set 76 = .ok (.iconst 1, 1) := by decide +kernel
theorem d_Md_set_77 : decode b_Md_set 77 = .ok (.putfield 22, 3) := by decide +kernel
theorem d_Md_set_80 : decode b_Md_set 80 = .ok (.iload_n 1, 1) := by decide +kernel
theorem d_Md_set_81 : decode b_Md_set 81 = .ok (.ifCond .le 24, 3) := by decide +kernel
theorem d_Md_set_84 : decode b_Md_set 84 = .ok (.aload_n 0, 1) := by decide +kernel
theorem d_Md_set_85 : decode b_Md_set 85 = .ok (.getfield 14, 3) := by decide +kernel
theorem d_Md_set_88 : decode b_Md_set 88 = .ok (.iload_n 1, 1) := by decide +kernel
theorem d_Md_set_89 : decode b_Md_set 89 = .ok (.iload_n 1, 1) := by decide +kernel
theorem d_Md_set_90 : decode b_Md_set 90 = .ok (.bipush 66, 2) := by decide +kernel
theorem d_Md_set_92 : decode b_Md_set 92 = .ok (.if_icmp .ne 11, 3) := by decide +kernel
theorem d_Md_set_95 : decode b_Md_set 95 = .ok (.iload_n 2, 1) := by decide +kernel
theorem d_Md_set_96 : decode b_Md_set 96 = .ok (.sipush 255, 3) := by decide +kernel
theorem d_Md_set_99 : decode b_Md_set 99 = .ok (.iand, 1) := by decide +kernel
theorem d_Md_set_100 : decode b_Md_set 100 = .ok (.goto 4, 3) := by decide +kernel
theorem d_Md_set_103 : decode b_Md_set 103 = .ok (.iload_n 2, 1) := by decide +kernel
theorem d_Md_set_104 : decode b_Md_set 104 = .ok (.iastore, 1) := by decide +kernel
theorem d_Md_set_105 : decode b_Md_set 105 = .ok (.iload_n 3, 1) := by decide +kernel
theorem d_Md_set_106 : decode b_Md_set 106 = .ok (.ireturn, 1) := by decide +kernel
theorem d_Md_get_0 : decode b_Md_get 0 = .ok (.aload_n 0, 1) := by decide +kernel
theorem d_Md_get_1 : decode b_Md_get 1 = .ok (.iconst 0, 1) := by decide +kernel
theorem d_Md_get_2 : decode b_Md_get 2 = .ok (.putfield 35, 3) := by decide +kernel
theorem d_Md_get_5 : decode b_Md_get 5 = .ok (.iload_n 1, 1) := by decide +kernel
theorem d_Md_get_6 : decode b_Md_get 6 = .ok (.ifCond .lt 9, 3) := by decide +kernel
theorem d_Md_get_9 : decode b_Md_get 9 = .ok (.iload_n 1, 1) := by decide +kernel
theorem d_Md_get_10 : decode b_Md_get 10 = .ok (.bipush 66, 2) := by decide +kernel
theorem d_Md_get_12 : decode b_Md_get 12 = .ok (.if_icmp .le 9, 3) := by decide +kernel
theorem d_Md_get_15 : decode b_Md_get 15 = .ok (.aload_n 0, 1) := by decide +kernel
theorem d_Md_get_16 : decode b_Md_get 16 = .ok (.iconst 1, 1) := by decide +kernel
theorem d_Md_get_17 : decode b_Md_get 17 = .ok (.invokevirtual 42, 3) := by decide +kernel
theorem d_Md_get_20 : decode b_Md_get 20 = .ok (.ireturn, 1) := by decide +kernel
theorem d_Md_get_21 : decode b_Md_get 21 = .ok (.iload_n 1, 1) := by decide +kernel
theorem d_Md_get_22 : decode b_Md_get 22 = .ok (.bipush 32, 2) := by decide +kernel
theorem d_Md_get_24 : decode b_Md_get 24 = .ok (.if_icmp .ne 10, 3) := by decide +kernel
theorem d_Md_get_27 : decode b_Md_get 27 = .ok (.aload_n 0, 1) := by decide +kernel
theorem d_Md_get_28 : decode b_Md_get 28 = .ok (.getfield 18, 3) := by decide +kernel
theorem d_Md_get_31 : decode b_Md_get 31 = .ok (.ifCond .eq 16, 3) := by decide +kernel
theorem d_Md_get_34 : decode b_Md_get 34 = .ok (.iload_n 1, 1) := by decide +kernel
theorem d_Md_get_35 : decode b_Md_get 35 = .ok (.bipush 33, 2) := by decide +kernel
theorem d_Md_get_37 : decode b_Md_get 37 = .ok (.if_icmp .ne 16, 3) := by decide +kernel
theorem d_Md_get_40 : decode b_Md_get 40 = .ok (.aload_n 0, 1) := by decide +kernel
theorem d_Md_get_41 : decode b_Md_get 41 = .ok (.getfield 22, 3) := by decide +kernel
theorem d_Md_get_44 : decode b_Md_get 44 = .ok (.ifCond .ne 9, 3) := by decide +kernel
theorem d_Md_get_47 : decode b_Md_get 47 = .ok (.aload_n 0, 1) := by decide +kernel
theorem d_Md_get_48 : decode b_Md_get 48 = .ok (.iconst 2, 1) := by decide +kernel
theorem d_Md_get_49 : decode b_Md_get 49 = .ok (.invokevirtual 42, 3) := by decide +kernel
theorem d_Md_get_52 : decode b_Md_get 52 = .ok (.ireturn, 1) := by decide +kernel
theorem d_Md_get_53 : decode b_Md_get 53 = .ok (.aload_n 0, 1) := by decide +kernel
theorem d_Md_get_54 : decode b_Md_get 54 = .ok (.getfield 14, 3) := by decide +kernel
theorem d_Md_get_57 : decode b_Md_get 57 = .ok (.iload_n 1, 1) := by decide +kernel
theorem d_Md_get_58 : decode b_Md_get 58 = .ok (.iaload, 1) := by decide +kernel
theorem d_Md_get_59 : decode b_Md_get 59 = .ok (.ireturn, 1) := by decide +kernel
theorem d_Md_field_0 : decode b_Md_field 0 = .ok (.aload_n 0, 1) := by decide +kernel
theorem d_Md_field_1 : decode b_Md_field 1 = .ok (.getfield 82, 3) := by decide +kernel
theorem d_Md_field_4 : decode b_Md_field 4 = .ok (.iload_n 1, 1) := by decide +kernel
theorem d_Md_field_5 : decode b_Md_field 5 = .ok (.iushr, 1) := by decide +kernel
theorem d_Md_field_6 : decode b_Md_field 6 = .ok (.bipush 31, 2) := by decide +kernel
theorem d_Md_field_8 : decode b_Md_field 8 = .ok (.iand, 1) := by decide +kernel
theorem d_Md_field_9 : decode b_Md_field 9 = .ok (.ireturn, 1) := by decide +kernel
theorem d_Md_rs_0 : decode b_Md_rs 0 = .ok (.aload_n 0, 1) := by decide +kernel
theorem d_Md_rs_1 : decode b_Md_rs 1 = .ok (.getfield 14, 3) := by decide +kernel
theorem d_Md_rs_4 : decode b_Md_rs 4 = .ok (.aload_n 0, 1) := by decide +kernel
theorem d_Md_rs_5 : decode b_Md_rs 5 = .ok (.bipush 21, 2) := by decide +kernel
theorem d_Md_rs_7 : decode b_Md_rs 7 = .ok (.invokevirtual 85, 3) := by decide +kernel
theorem d_Md_rs_10 : decode b_Md_rs 10 = .ok (.iaload, 1) := by decide +kernel
theorem d_Md_rs_11 : decode b_Md_rs 11 = .ok (.ireturn, 1) := by decide +kernel
theorem d_Md_into_0 : decode b_Md_into 0 = .ok (.iload_n 1, 1) := by decide +kernel
theorem d_Md_into_1 : decode b_Md_into 1 = .ok (.ifCond .le 17, 3) := by decide +kernel
theorem d_Md_into_4 : decode b_Md_into 4 = .ok (.aload_n 0, 1) := by decide +kernel
theorem d_Md_into_5 : decode b_Md_into 5 = .ok (.getfield 63, 3) := by decide +kernel
theorem d_Md_into_8 : decode b_Md_into 8 = .ok (.ifCond .ne 10, 3) := by decide +kernel
theorem d_Md_into_11 : decode b_Md_into 11 = .ok (.aload_n 0, 1) := by decide +kernel
theorem d_Md_into_12 : decode b_Md_into 12 = .ok (.getfield 14, 3) := by decide +kernel
theorem d_Md_into_15 : decode b_Md_into 15 = .ok (.iload_n 1, 1) := by decide +kernel
theorem d_Md_into_16 : decode b_Md_into 16 = .ok (.iload_n 2, 1) := by decide +kernel
theorem d_Md_into_17 : decode b_Md_into 17 = .ok (.iastore, 1) := by decide +kernel
theorem d_Md_into_18 : decode b_Md_into 18 = .ok (.return_, 1) := by decide +kernel
theorem d_Md_ends_0 : decode b_Md_ends 0 = .ok (.aload_n 0, 1) := by decide +kernel
theorem d_Md_ends_1 : decode b_Md_ends 1 = .ok (.getfield 63, 3) := by decide +kernel
theorem d_Md_ends_4 : decode b_Md_ends 4 = .ok (.ifCond .ne 8, 3) := by decide +kernel
theorem d_Md_ends_7 : decode b_Md_ends 7 = .ok (.aload_n 0, 1) := by decide +kernel
theorem d_Md_ends_8 : decode b_Md_ends 8 = .ok (.iload_n 1, 1) := by decide +kernel
theorem d_Md_ends_9 : decode b_Md_ends 9 = .ok (.putfield 63, 3) := by decide +kernel
theorem d_Md_ends_12 : decode b_Md_ends 12 = .ok (.return_, 1) := by decide +kernel
theorem d_Md_rt_0 : decode b_Md_rt 0 = .ok (.aload_n 0, 1) := by decide +kernel
theorem d_Md_rt_1 : decode b_Md_rt 1 = .ok (.getfield 14, 3) := by decide +kernel
theorem d_Md_rt_4 : decode b_Md_rt 4 = .ok (.aload_n 0, 1) := by decide +kernel
theorem d_Md_rt_5 : decode b_Md_rt 5 = .ok (.bipush 16, 2) := by decide +kernel
theorem d_Md_rt_7 : decode b_Md_rt 7 = .ok (.invokevirtual 85, 3) := by decide +kernel
theorem d_Md_rt_10 : decode b_Md_rt 10 = .ok (.iaload, 1) := by decide +kernel
theorem d_Md_rt_11 : decode b_Md_rt 11 = .ok (.ireturn, 1) := by decide +kernel
theorem d_Md_shifts_0 : decode b_Md_shifts 0 = .ok (.iload_n 1, 1) := by decide +kernel
theorem d_Md_shifts_1 : decode b_Md_shifts 1 = .ok (.iconst 1, 1) := by decide +kernel
theorem d_Md_shifts_2 : decode b_Md_shifts 2 = .ok (.if_icmp .ne 60, 3) := by decide +kernel
theorem d_Md_shifts_5 : decode b_Md_shifts 5 = .ok (.aload_n 0, 1) := by decide +kernel
theorem d_Md_shifts_6 : decode b_Md_shifts 6 = .ok (.getfield 14, 3) := by decide +kernel
theorem d_Md_shifts_9 : decode b_Md_shifts 9 = .ok (.bipush 66, 2) := by decide +kernel
theorem d_Md_shifts_11 : decode b_Md_shifts 11 = .ok (.iaload, 1) := by decide +kernel
theorem d_Md_shifts_12 : decode b_Md_shifts 12 = .ok (.aload_n 0, 1) := by decide +kernel
theorem d_Md_shifts_13 : decode b_Md_shifts 13 = .ok (.getfield 82, 3) := by decide +kernel
theorem d_Md_shifts_16 : decode b_Md_shifts 16 = .ok (.bipush 18, 2) := by decide +kernel
theorem d_Md_shifts_18 : decode b_Md_shifts 18 = .ok (.iushr, 1) := by decide +kernel
theorem d_Md_shifts_19 : decode b_Md_shifts 19 = .ok (.bipush 7, 2) := by decide +kernel
theorem d_Md_shifts_21 : decode b_Md_shifts 21 = .ok (.iand, 1) := by decide +kernel
theorem d_Md_shifts_22 : decode b_Md_shifts 22 = .ok (.ishr, 1) := by decide +kernel
theorem d_Md_shifts_23 : decode b_Md_shifts 23 = .ok (.iconst 1, 1) := by decide +kernel
theorem d_Md_shifts_24 : decode b_Md_shifts 24 = .ok (.iand, 1) := by decide +kernel
theorem d_Md_shifts_25 : decode b_Md_shifts 25 = .ok (.aload_n 0, 1) := by decide +kernel
theorem d_Md_shifts_26 : decode b_Md_shifts 26 = .ok (.getfield 82, 3) := by decide +kernel
theorem d_Md_shifts_29 : decode b_Md_shifts 29 = .ok (.bipush 16, 2) := by decide +kernel
theorem d_Md_shifts_31 : decode b_Md_shifts 31 = .ok (.iushr, 1) := by decide +kernel
theorem d_Md_shifts_32 : decode b_Md_shifts 32 = .ok (.iconst 1, 1) := by decide +kernel
theorem d_Md_shifts_33 : decode b_Md_shifts 33 = .ok (.iand, 1) := by decide +kernel
theorem d_Md_shifts_34 : decode b_Md_shifts 34 = .ok (.if_icmp .ne 7, 3) := by decide +kernel
theorem d_Md_shifts_37 : decode b_Md_shifts 37 = .ok (.iconst 1, 1) := by decide +kernel
theorem d_Md_shifts_38 : decode b_Md_shifts 38 = .ok (.goto 4, 3) := by decide +kernel
theorem d_Md_shifts_41 : decode b_Md_shifts 41 = .ok (.iconst 0, 1) := by decide +kernel
theorem d_Md_shifts_42 : decode b_Md_shifts 42 = .ok (.istore_n 2, 1) := by decide +kernel
theorem d_Md_shifts_43 : decode b_Md_shifts 43 = .ok (.iload_n 2, 1) := by decide +kernel
theorem d_Md_shifts_44 : decode b_Md_shifts 44 = .ok (.ifCond .eq 17, 3) := by decide +kernel
theorem d_Md_shifts_47 : decode b_Md_shifts 47 = .ok (.aload_n 0, 1) := by decide +kernel
theorem d_Md_shifts_48 : decode b_Md_shifts 48 = .ok (.aload_n 0, 1) := by decide +kernel
theorem d_Md_shifts_49 : decode b_Md_shifts 49 = .ok (.bipush 11, 2) := by decide +kernel
theorem d_Md_shifts_51 : decode b_Md_shifts 51 = .ok (.invokevirtual 85, 3) := by decide +kernel
theorem d_Md_shifts_54 : decode b_Md_shifts 54 = .ok (.aload_n 0, 1) := by decide +kernel
theorem d_Md_shifts_55 : decode b_Md_shifts 55 = .ok (.invokevirtual 132, 3) := by decide +kernel
theorem d_Md_shifts_58 : decode b_Md_shifts 58 = .ok (.invokevirtual 128, 3) := by decide +kernel
theorem d_Md_shifts_61 : decode b_Md_shifts 61 = .ok (.return_, 1) := by decide +kernel
theorem d_Md_shifts_62 : decode b_Md_shifts 62 = .ok (.iload_n 1, 1) := by decide +kernel
theorem d_Md_shifts_63 : decode b_Md_shifts 63 = .ok (.iconst 5, 1) := by decide +kernel
theorem d_Md_shifts_64 : decode b_Md_shifts 64 = .ok (.if_icmp .ne 9, 3) := by decide +kernel
theorem d_Md_shifts_67 : decode b_Md_shifts 67 = .ok (.aload_n 0, 1) := by decide +kernel
theorem d_Md_shifts_68 : decode b_Md_shifts 68 = .ok (.iconst 3, 1) := by decide +kernel
theorem d_Md_shifts_69 : decode b_Md_shifts 69 = .ok (.invokevirtual 116, 3) := by decide +kernel
theorem d_Md_shifts_72 : decode b_Md_shifts 72 = .ok (.return_, 1) := by decide +kernel
theorem d_Md_shifts_73 : decode b_Md_shifts 73 = .ok (.iload_n 1, 1) := by decide +kernel
theorem d_Md_shifts_74 : decode b_Md_shifts 74 = .ok (.iconst 4, 1) := by decide +kernel
theorem d_Md_shifts_75 : decode b_Md_shifts 75 = .ok (.if_icmp .ge 12, 3) := by decide +kernel
theorem d_Md_shifts_78 : decode b_Md_shifts 78 = .ok (.aload_n 0, 1) := by decide +kernel
theorem d_Md_shifts_79 : decode b_Md_shifts 79 = .ok (.bipush 6, 2) := by decide +kernel
theorem d_Md_shifts_81 : decode b_Md_shifts 81 = .ok (.invokevirtual 85, 3) := by decide +kernel
theorem d_Md_shifts_84 : decode b_Md_shifts 84 = .ok (.goto 10, 3) := by decide +kernel
theorem d_Md_shifts_87 : decode b_Md_shifts 87 = .ok (.aload_n 0, 1) := by decide +kernel
theorem d_Md_shifts_88 : decode b_Md_shifts 88 = .ok (.invokevirtual 132, 3) := by decide +kernel
theorem d_Md_shifts_91 : decode b_Md_shifts 91 = .ok (.bipush 31, 2) := by decide +kernel
theorem d_Md_shifts_93 : decode b_Md_shifts 93 = .ok (.iand, 1) := by decide +kernel
theorem d_Md_shifts_94 : decode b_Md_shifts 94 = .ok (.istore_n 2, 1) := by decide +kernel
theorem d_Md_shifts_95 : decode b_Md_shifts 95 = .ok (.iload_n 1, 1) := by decide +kernel
theorem d_Md_shifts_96 : decode b_Md_shifts 96 = .ok (.iconst 3, 1) := by decide +kernel
theorem d_Md_shifts_97 : decode b_Md_shifts 97 = .ok (.iand, 1) := by decide +kernel
theorem d_Md_shifts_98 : decode b_Md_shifts 98 = .ok (.istore_n 3, 1) := by decide +kernel
theorem d_Md_shifts_99 : decode b_Md_shifts 99 = .ok (.aload_n 0, 1) := by decide +kernel
theorem d_Md_shifts_100 : decode b_Md_shifts 100 = .ok (.aload_n 0, 1) := by decide +kernel
theorem d_Md_shifts_101 : decode b_Md_shifts 101 = .ok (.bipush 11, 2) := by decide +kernel
theorem d_Md_shifts_103 : decode b_Md_shifts 103 = .ok (.invokevirtual 85, 3) := by decide +kernel
theorem d_Md_shifts_106 : decode b_Md_shifts 106 = .ok (.iload_n 3, 1) := by decide +kernel
theorem d_Md_shifts_107 : decode b_Md_shifts 107 = .ok (.ifCond .ne 12, 3) := by decide +kernel
theorem d_Md_shifts_110 : decode b_Md_shifts 110 = .ok (.aload_n 0, 1) := by decide +kernel
theorem d_Md_shifts_111 : decode b_Md_shifts 111 = .ok (.invokevirtual 135, 3) := by decide +kernel
theorem d_Md_shifts_114 : decode b_Md_shifts 114 = .ok (.iload_n 2, 1) := by decide +kernel
theorem d_Md_shifts_115 : decode b_Md_shifts 115 = .ok (.ishl, 1) := by decide +kernel
theorem d_Md_shifts_116 : decode b_Md_shifts 116 = .ok (.goto 23, 3) := by decide +kernel
theorem d_Md_shifts_119 : decode b_Md_shifts 119 = .ok (.iload_n 3, 1) := by decide +kernel
theorem d_Md_shifts_120 : decode b_Md_shifts 120 = .ok (.iconst 2, 1) := by decide +kernel
theorem d_Md_shifts_121 : decode b_Md_shifts 121 = .ok (.if_icmp .ne 12, 3) := by decide +kernel
theorem d_Md_shifts_124 : decode b_Md_shifts 124 = .ok (.aload_n 0, 1) := by decide +kernel
theorem d_Md_shifts_125 : decode b_Md_shifts 125 = .ok (.invokevirtual 135, 3) := by decide +kernel
theorem d_Md_shifts_128 : decode b_Md_shifts 128 = .ok (.iload_n 2, 1) := by decide +kernel
theorem d_Md_shifts_129 : decode b_Md_shifts 129 = .ok (.iushr, 1) := by decide +kernel
theorem d_Md_shifts_130 : decode b_Md_shifts 130 = .ok (.goto 9, 3) := by decide +kernel
theorem d_Md_shifts_133 : decode b_Md_shifts 133 = .ok (.aload_n 0, 1) := by decide +kernel
theorem d_Md_shifts_134 : decode b_Md_shifts 134 = .ok (.invokevirtual 135, 3) := by decide +kernel
theorem d_Md_shifts_137 : decode b_Md_shifts 137 = .ok (.iload_n 2, 1) := by decide +kernel
theorem d_Md_shifts_138 : decode b_Md_shifts 138 = .ok (.ishr, 1) := by decide +kernel
theorem d_Md_shifts_139 : decode b_Md_shifts 139 = .ok (.invokevirtual 128, 3) := by decide +kernel
theorem d_Md_shifts_142 : decode b_Md_shifts 142 = .ok (.return_, 1) := by decide +kernel
theorem d_Md_jumps_0 : decode b_Md_jumps 0 = .ok (.aload_n 0, 1) := by decide +kernel
theorem d_Md_jumps_1 : decode b_Md_jumps 1 = .ok (.getfield 57, 3) := by decide +kernel
theorem d_Md_jumps_4 : decode b_Md_jumps 4 = .ok (.ifCond .eq 10, 3) := by decide +kernel
theorem d_Md_jumps_7 : decode b_Md_jumps 7 = .ok (.aload_n 0, 1) := by decide +kernel
theorem d_Md_jumps_8 : decode b_Md_jumps 8 = .ok (.bipush 8, 2) := by decide +kernel
theorem d_Md_jumps_10 : decode b_Md_jumps 10 = .ok (.invokevirtual 116, 3) := by decide +kernel
theorem d_Md_jumps_13 : decode b_Md_jumps 13 = .ok (.return_, 1) := by decide +kernel
theorem d_Md_jumps_14 : decode b_Md_jumps 14 = .ok (.aload_n 0, 1) := by decide +kernel
theorem d_Md_jumps_15 : decode b_Md_jumps 15 = .ok (.iconst 1, 1) := by decide +kernel
theorem d_Md_jumps_16 : decode b_Md_jumps 16 = .ok (.putfield 73, 3) := by decide +kernel
theorem d_Md_jumps_19 : decode b_Md_jumps 19 = .ok (.aload_n 0, 1) := by decide +kernel
theorem d_Md_jumps_20 : decode b_Md_jumps 20 = .ok (.iload_n 1, 1) := by decide +kernel
theorem d_Md_jumps_21 : decode b_Md_jumps 21 = .ok (.putfield 70, 3) := by decide +kernel
theorem d_Md_jumps_24 : decode b_Md_jumps 24 = .ok (.aload_n 0, 1) := by decide +kernel
theorem d_Md_jumps_25 : decode b_Md_jumps 25 = .ok (.iload_n 2, 1) := by decide +kernel
theorem d_Md_jumps_26 : decode b_Md_jumps 26 = .ok (.putfield 92, 3) := by decide +kernel
theorem d_Md_jumps_29 : decode b_Md_jumps 29 = .ok (.aload_n 0, 1) := by decide +kernel
theorem d_Md_jumps_30 : decode b_Md_jumps 30 = .ok (.iload_n 3, 1) := by decide +kernel
theorem d_Md_jumps_31 : decode b_Md_jumps 31 = .ok (.ifCond .eq 11, 3) := by decide +kernel
theorem d_Md_jumps_34 : decode b_Md_jumps 34 = .ok (.iload_n 1, 1) := by decide +kernel
theorem d_Md_jumps_35 : decode b_Md_jumps 35 = .ok (.ifCond .ne 7, 3) := by decide +kernel
theorem d_Md_jumps_38 : decode b_Md_jumps 38 = .ok (.iconst 1, 1) := by decide +kernel
theorem d_Md_jumps_39 : decode b_Md_jumps 39 = .ok (.goto 4, 3) := by decide +kernel
theorem d_Md_jumps_42 : decode b_Md_jumps 42 = .ok (.iconst 0, 1) := by decide +kernel
theorem d_Md_jumps_43 : decode b_Md_jumps 43 = .ok (.putfield 76, 3) := by decide +kernel
theorem d_Md_jumps_46 : decode b_Md_jumps 46 = .ok (.return_, 1) := by decide +kernel
theorem d_Md_moves_0 : decode b_Md_moves 0 = .ok (.iload_n 1, 1) := by decide +kernel
theorem d_Md_moves_1 : decode b_Md_moves 1 = .ok (.tableswitch 180 8 15 #[47, 60, 111, 135, 159, 168, 180, 177], 47) := by decide +kernel
theorem d_Md_moves_48 : decode b_Md_moves 48 = .ok (.aload_n 0, 1) := by decide +kernel
theorem d_Md_moves_49 : decode b_Md_moves 49 = .ok (.iconst 1, 1) := by decide +kernel
theorem d_Md_moves_50 : decode b_Md_moves 50 = .ok (.aload_n 0, 1) := by decide +kernel
theorem d_Md_moves_51 : decode b_Md_moves 51 = .ok (.invokevirtual 132, 3) := by decide +kernel
theorem d_Md_moves_54 : decode b_Md_moves 54 = .ok (.iconst 0, 1) := by decide +kernel
theorem d_Md_moves_55 : decode b_Md_moves 55 = .ok (.invokevirtual 124, 3) := by decide +kernel
theorem d_Md_moves_58 : decode b_Md_moves 58 = .ok (.goto 128, 3) := by decide +kernel
theorem d_Md_moves_61 : decode b_Md_moves 61 = .ok (.aload_n 0, 1) := by decide +kernel
theorem d_Md_moves_62 : decode b_Md_moves 62 = .ok (.bipush 21, 2) := by decide +kernel
theorem d_Md_moves_64 : decode b_Md_moves 64 = .ok (.invokevirtual 85, 3) := by decide +kernel
theorem d_Md_moves_67 : decode b_Md_moves 67 = .ok (.aload_n 0, 1) := by decide +kernel
theorem d_Md_moves_68 : decode b_Md_moves 68 = .ok (.bipush 11, 2) := by decide +kernel
theorem d_Md_moves_70 : decode b_Md_moves 70 = .ok (.invokevirtual 85, 3) := by decide +kernel
theorem d_Md_moves_73 : decode b_Md_moves 73 = .ok (.if_icmp .ne 9, 3) := by decide +kernel
theorem d_Md_moves_76 : decode b_Md_moves 76 = .ok (.aload_n 0, 1) := by decide +kernel
theorem d_Md_moves_77 : decode b_Md_moves 77 = .ok (.bipush 8, 2) := by decide +kernel
theorem d_Md_moves_79 : decode b_Md_moves 79 = .ok (.invokevirtual 116, 3) := by decide +kernel
theorem d_Md_moves_82 : decode b_Md_moves 82 = .ok (.aload_n 0, 1) := by decide +kernel
theorem d_Md_moves_83 : decode b_Md_moves 83 = .ok (.iconst 1, 1) := by decide +kernel
theorem d_Md_moves_84 : decode b_Md_moves 84 = .ok (.aload_n 0, 1) := by decide +kernel
theorem d_Md_moves_85 : decode b_Md_moves 85 = .ok (.invokevirtual 132, 3) := by decide +kernel
theorem d_Md_moves_88 : decode b_Md_moves 88 = .ok (.iconst 0, 1) := by decide +kernel
theorem d_Md_moves_89 : decode b_Md_moves 89 = .ok (.invokevirtual 124, 3) := by decide +kernel
theorem d_Md_moves_92 : decode b_Md_moves 92 = .ok (.aload_n 0, 1) := by decide +kernel
theorem d_Md_moves_93 : decode b_Md_moves 93 = .ok (.aload_n 0, 1) := by decide +kernel
theorem d_Md_moves_94 : decode b_Md_moves 94 = .ok (.bipush 11, 2) := by decide +kernel
theorem d_Md_moves_96 : decode b_Md_moves 96 = .ok (.invokevirtual 85, 3) := by decide +kernel
theorem d_Md_moves_99 : decode b_Md_moves 99 = .ok (.aload_n 0, 1) := by decide +kernel
theorem d_Md_moves_100 : decode b_Md_moves 100 = .ok (.getfield 54, 3) := by decide +kernel
theorem d_Md_moves_103 : decode b_Md_moves 103 = .ok (.bipush 8, 2) := by decide +kernel
theorem d_Md_moves_105 : decode b_Md_moves 105 = .ok (.iadd, 1) := by decide +kernel
theorem d_Md_moves_106 : decode b_Md_moves 106 = .ok (.invokevirtual 128, 3) := by decide +kernel
theorem d_Md_moves_109 : decode b_Md_moves 109 = .ok (.goto 77, 3) := by decide +kernel
theorem d_Md_moves_112 : decode b_Md_moves 112 = .ok (.aload_n 0, 1) := by decide +kernel
theorem d_Md_moves_113 : decode b_Md_moves 113 = .ok (.invokevirtual 135, 3) := by decide +kernel
theorem d_Md_moves_116 : decode b_Md_moves 116 = .ok (.ifCond .ne 70, 3) := by decide +kernel
theorem d_Md_moves_119 : decode b_Md_moves 119 = .ok (.aload_n 0, 1) := by decide +kernel
theorem d_Md_moves_120 : decode b_Md_moves 120 = .ok (.aload_n 0, 1) := by decide +kernel
theorem d_Md_moves_121 : decode b_Md_moves 121 = .ok (.bipush 11, 2) := by decide +kernel
theorem d_Md_moves_123 : decode b_Md_moves 123 = .ok (.invokevirtual 85, 3) := by decide +kernel
theorem d_Md_moves_126 : decode b_Md_moves 126 = .ok (.aload_n 0, 1) := by decide +kernel
theorem d_Md_moves_127 : decode b_Md_moves 127 = .ok (.invokevirtual 132, 3) := by decide +kernel
theorem d_Md_moves_130 : decode b_Md_moves 130 = .ok (.invokevirtual 128, 3) := by decide +kernel
theorem d_Md_moves_133 : decode b_Md_moves 133 = .ok (.goto 53, 3) := by decide +kernel
theorem d_Md_moves_136 : decode b_Md_moves 136 = .ok (.aload_n 0, 1) := by decide +kernel
theorem d_Md_moves_137 : decode b_Md_moves 137 = .ok (.invokevirtual 135, 3) := by decide +kernel
theorem d_Md_moves_140 : decode b_Md_moves 140 = .ok (.ifCond .eq 46, 3) := by decide +kernel
theorem d_Md_moves_143 : decode b_Md_moves 143 = .ok (.aload_n 0, 1) := by decide +kernel
theorem d_Md_moves_144 : decode b_Md_moves 144 = .ok (.aload_n 0, 1) := by decide +kernel
theorem d_Md_moves_145 : decode b_Md_moves 145 = .ok (.bipush 11, 2) := by decide +kernel
theorem d_Md_moves_147 : decode b_Md_moves 147 = .ok (.invokevirtual 85, 3) := by decide +kernel
theorem d_Md_moves_150 : decode b_Md_moves 150 = .ok (.aload_n 0, 1) := by decide +kernel
theorem d_Md_moves_151 : decode b_Md_moves 151 = .ok (.invokevirtual 132, 3) := by decide +kernel
theorem d_Md_moves_154 : decode b_Md_moves 154 = .ok (.invokevirtual 128, 3) := by decide +kernel
theorem d_Md_moves_157 : decode b_Md_moves 157 = .ok (.goto 29, 3) := by decide +kernel
theorem d_Md_moves_160 : decode b_Md_moves 160 = .ok (.aload_n 0, 1) := by decide +kernel
theorem d_Md_moves_161 : decode b_Md_moves 161 = .ok (.bipush 7, 2) := by decide +kernel
theorem d_Md_moves_163 : decode b_Md_moves 163 = .ok (.invokevirtual 116, 3) := by decide +kernel
theorem d_Md_moves_166 : decode b_Md_moves 166 = .ok (.goto 20, 3) := by decide +kernel
theorem d_Md_moves_169 : decode b_Md_moves 169 = .ok (.aload_n 0, 1) := by decide +kernel
theorem d_Md_moves_170 : decode b_Md_moves 170 = .ok (.bipush 6, 2) := by decide +kernel
theorem d_Md_moves_172 : decode b_Md_moves 172 = .ok (.invokevirtual 116, 3) := by decide +kernel
theorem d_Md_moves_175 : decode b_Md_moves 175 = .ok (.goto 11, 3) := by decide +kernel
theorem d_Md_moves_178 : decode b_Md_moves 178 = .ok (.goto 8, 3) := by decide +kernel
theorem d_Md_moves_181 : decode b_Md_moves 181 = .ok (.aload_n 0, 1) := by decide +kernel
theorem d_Md_moves_182 : decode b_Md_moves 182 = .ok (.iconst 3, 1) := by decide +kernel
theorem d_Md_moves_183 : decode b_Md_moves 183 = .ok (.invokevirtual 116, 3) := by decide +kernel
theorem d_Md_moves_186 : decode b_Md_moves 186 = .ok (.return_, 1) := by decide +kernel
theorem d_Md_halves_0 : decode b_Md_halves 0 = .ok (.iload_n 1, 1) := by decide +kernel
theorem d_Md_halves_1 : decode b_Md_halves 1 = .ok (.bipush 18, 2) := by decide +kernel
theorem d_Md_halves_3 : decode b_Md_halves 3 = .ok (.if_icmp .ge 10, 3) := by decide +kernel
theorem d_Md_halves_6 : decode b_Md_halves 6 = .ok (.aload_n 0, 1) := by decide +kernel
theorem d_Md_halves_7 : decode b_Md_halves 7 = .ok (.getfield 18, 3) := by decide +kernel
theorem d_Md_halves_10 : decode b_Md_halves 10 = .ok (.goto 7, 3) := by decide +kernel
theorem d_Md_halves_13 : decode b_Md_halves 13 = .ok (.aload_n 0, 1) := by decide +kernel
theorem d_Md_halves_14 : decode b_Md_halves 14 = .ok (.getfield 22, 3) := by decide +kernel
theorem d_Md_halves_17 : decode b_Md_halves 17 = .ok (.istore_n 2, 1) := by decide +kernel
theorem d_Md_halves_18 : decode b_Md_halves 18 = .ok (.iload_n 1, 1) := by decide +kernel
theorem d_Md_halves_19 : decode b_Md_halves 19 = .ok (.bipush 18, 2) := by decide +kernel
theorem d_Md_halves_21 : decode b_Md_halves 21 = .ok (.if_icmp .ge 8, 3) := by decide +kernel
theorem d_Md_halves_24 : decode b_Md_halves 24 = .ok (.bipush 32, 2) := by decide +kernel
theorem d_Md_halves_26 : decode b_Md_halves 26 = .ok (.goto 5, 3) := by decide +kernel
theorem d_Md_halves_29 : decode b_Md_halves 29 = .ok (.bipush 33, 2) := by decide +kernel
theorem d_Md_halves_31 : decode b_Md_halves 31 = .ok (.istore_n 3, 1) := by decide +kernel
theorem d_Md_halves_32 : decode b_Md_halves 32 = .ok (.iload_n 1, 1) := by decide +kernel
theorem d_Md_halves_33 : decode b_Md_halves 33 = .ok (.iconst 1, 1) := by decide +kernel
theorem d_Md_halves_34 : decode b_Md_halves 34 = .ok (.iand, 1) := by decide +kernel
theorem d_Md_halves_35 : decode b_Md_halves 35 = .ok (.ifCond .ne 30, 3) := by decide +kernel
theorem d_Md_halves_38 : decode b_Md_halves 38 = .ok (.iload_n 2, 1) := by decide +kernel
theorem d_Md_halves_39 : decode b_Md_halves 39 = .ok (.ifCond .ne 9, 3) := by decide +kernel
theorem d_Md_halves_42 : decode b_Md_halves 42 = .ok (.aload_n 0, 1) := by decide +kernel
theorem d_Md_halves_43 : decode b_Md_halves 43 = .ok (.bipush 8, 2) := by decide +kernel
theorem d_Md_halves_45 : decode b_Md_halves 45 = .ok (.invokevirtual 116, 3) := by decide +kernel
theorem d_Md_halves_48 : decode b_Md_halves 48 = .ok (.aload_n 0, 1) := by decide +kernel
theorem d_Md_halves_49 : decode b_Md_halves 49 = .ok (.aload_n 0, 1) := by decide +kernel
theorem d_Md_halves_50 : decode b_Md_halves 50 = .ok (.bipush 11, 2) := by decide +kernel
theorem d_Md_halves_52 : decode b_Md_halves 52 = .ok (.invokevirtual 85, 3) := by decide +kernel
theorem d_Md_halves_55 : decode b_Md_halves 55 = .ok (.aload_n 0, 1) := by decide +kernel
theorem d_Md_halves_56 : decode b_Md_halves 56 = .ok (.getfield 14, 3) := by decide +kernel
theorem d_Md_halves_59 : decode b_Md_halves 59 = .ok (.iload_n 3, 1) := by decide +kernel
theorem d_Md_halves_60 : decode b_Md_halves 60 = .ok (.iaload, 1) := by decide +kernel
theorem d_Md_halves_61 : decode b_Md_halves 61 = .ok (.invokevirtual 128, 3) := by decide +kernel
theorem d_Md_halves_64 : decode b_Md_halves 64 = .ok (.return_, 1) := by decide +kernel
theorem d_Md_halves_65 : decode b_Md_halves 65 = .ok (.aload_n 0, 1) := by decide +kernel
theorem d_Md_halves_66 : decode b_Md_halves 66 = .ok (.getfield 14, 3) := by decide +kernel
theorem d_Md_halves_69 : decode b_Md_halves 69 = .ok (.iload_n 3, 1) := by decide +kernel
theorem d_Md_halves_70 : decode b_Md_halves 70 = .ok (.aload_n 0, 1) := by decide +kernel
theorem d_Md_halves_71 : decode b_Md_halves 71 = .ok (.invokevirtual 132, 3) := by decide +kernel
theorem d_Md_halves_74 : decode b_Md_halves 74 = .ok (.iastore, 1) := by decide +kernel
theorem d_Md_halves_75 : decode b_Md_halves 75 = .ok (.iload_n 1, 1) := by decide +kernel
theorem d_Md_halves_76 : decode b_Md_halves 76 = .ok (.bipush 18, 2) := by decide +kernel
theorem d_Md_halves_78 : decode b_Md_halves 78 = .ok (.if_icmp .ge 11, 3) := by decide +kernel
theorem d_Md_halves_81 : decode b_Md_halves 81 = .ok (.aload_n 0, 1) := by decide +kernel
theorem d_Md_halves_82 : decode b_Md_halves 82 = .ok (.iconst 1, 1) := by decide +kernel
theorem d_Md_halves_83 : decode b_Md_halves 83 = .ok (.putfield 18, 3) := by decide +kernel
theorem d_Md_halves_86 : decode b_Md_halves 86 = .ok (.goto 8, 3) := by decide +kernel
theorem d_Md_halves_89 : decode b_Md_halves 89 = .ok (.aload_n 0, 1) := by decide +kernel
theorem d_Md_halves_90 : decode b_Md_halves 90 = .ok (.iconst 1, 1) := by decide +kernel
theorem d_Md_halves_91 : decode b_Md_halves 91 = .ok (.putfield 22, 3) := by decide +kernel
theorem d_Md_halves_94 : decode b_Md_halves 94 = .ok (.return_, 1) := by decide +kernel
theorem d_Md_product_0 : decode b_Md_product 0 = .ok (.iload_n 1, 1) := by decide +kernel
theorem d_Md_product_1 : decode b_Md_product 1 = .ok (.ifCond .eq 17, 3) := by decide +kernel
theorem d_Md_product_4 : decode b_Md_product 4 = .ok (.aload_n 0, 1) := by decide +kernel
theorem d_Md_product_5 : decode b_Md_product 5 = .ok (.invokevirtual 132, 3) := by decide +kernel
theorem d_Md_product_8 : decode b_Md_product 8 = .ok (.i2l, 1) := by decide +kernel
theorem d_Md_product_9 : decode b_Md_product 9 = .ok (.aload_n 0, 1) := by decide +kernel
theorem d_Md_product_10 : decode b_Md_product 10 = .ok (.invokevirtual 135, 3) := by decide +kernel
theorem d_Md_product_13 : decode b_Md_product 13 = .ok (.i2l, 1) := by decide +kernel
theorem d_Md_product_14 : decode b_Md_product 14 = .ok (.lmul, 1) := by decide +kernel
theorem d_Md_product_15 : decode b_Md_product 15 = .ok (.goto 22, 3) := by decide +kernel
theorem d_Md_product_18 : decode b_Md_product 18 = .ok (.aload_n 0, 1) := by decide +kernel
theorem d_Md_product_19 : decode b_Md_product 19 = .ok (.invokevirtual 132, 3) := by decide +kernel
theorem d_Md_product_22 : decode b_Md_product 22 = .ok (.i2l, 1) := by decide +kernel
theorem d_Md_product_23 : decode b_Md_product 23 = .ok (.ldc2_w 163, 3) := by decide +kernel
theorem d_Md_product_26 : decode b_Md_product 26 = .ok (.land, 1) := by decide +kernel
theorem d_Md_product_27 : decode b_Md_product 27 = .ok (.aload_n 0, 1) := by decide +kernel
theorem d_Md_product_28 : decode b_Md_product 28 = .ok (.invokevirtual 135, 3) := by decide +kernel
theorem d_Md_product_31 : decode b_Md_product 31 = .ok (.i2l, 1) := by decide +kernel
theorem d_Md_product_32 : decode b_Md_product 32 = .ok (.ldc2_w 163, 3) := by decide +kernel
theorem d_Md_product_35 : decode b_Md_product 35 = .ok (.land, 1) := by decide +kernel
theorem d_Md_product_36 : decode b_Md_product 36 = .ok (.lmul, 1) := by decide +kernel
theorem d_Md_product_37 : decode b_Md_product 37 = .ok (.lreturn, 1) := by decide +kernel
theorem d_Md_both_0 : decode b_Md_both 0 = .ok (.aload_n 0, 1) := by decide +kernel
theorem d_Md_both_1 : decode b_Md_both 1 = .ok (.getfield 14, 3) := by decide +kernel
theorem d_Md_both_4 : decode b_Md_both 4 = .ok (.bipush 32, 2) := by decide +kernel
theorem d_Md_both_6 : decode b_Md_both 6 = .ok (.lload_n 1, 1) := by decide +kernel
theorem d_Md_both_7 : decode b_Md_both 7 = .ok (.bipush 32, 2) := by decide +kernel
theorem d_Md_both_9 : decode b_Md_both 9 = .ok (.lshr, 1) := by decide +kernel
theorem d_Md_both_10 : decode b_Md_both 10 = .ok (.l2i, 1) := by decide +kernel
theorem d_Md_both_11 : decode b_Md_both 11 = .ok (.iastore, 1) := by decide +kernel
theorem d_Md_both_12 : decode b_Md_both 12 = .ok (.aload_n 0, 1) := by decide +kernel
theorem d_Md_both_13 : decode b_Md_both 13 = .ok (.getfield 14, 3) := by decide +kernel
theorem d_Md_both_16 : decode b_Md_both 16 = .ok (.bipush 33, 2) := by decide +kernel
theorem d_Md_both_18 : decode b_Md_both 18 = .ok (.lload_n 1, 1) := by decide +kernel
theorem d_Md_both_19 : decode b_Md_both 19 = .ok (.l2i, 1) := by decide +kernel
theorem d_Md_both_20 : decode b_Md_both 20 = .ok (.iastore, 1) := by decide +kernel
theorem d_Md_both_21 : decode b_Md_both 21 = .ok (.aload_n 0, 1) := by decide +kernel
theorem d_Md_both_22 : decode b_Md_both 22 = .ok (.iconst 1, 1) := by decide +kernel
theorem d_Md_both_23 : decode b_Md_both 23 = .ok (.putfield 18, 3) := by decide +kernel
theorem d_Md_both_26 : decode b_Md_both 26 = .ok (.aload_n 0, 1) := by decide +kernel
theorem d_Md_both_27 : decode b_Md_both 27 = .ok (.iconst 1, 1) := by decide +kernel
theorem d_Md_both_28 : decode b_Md_both 28 = .ok (.putfield 22, 3) := by decide +kernel
theorem d_Md_both_31 : decode b_Md_both 31 = .ok (.return_, 1) := by decide +kernel
theorem d_Md_products_0 : decode b_Md_products 0 = .ok (.iload_n 1, 1) := by decide +kernel
theorem d_Md_products_1 : decode b_Md_products 1 = .ok (.bipush 26, 2) := by decide +kernel
theorem d_Md_products_3 : decode b_Md_products 3 = .ok (.if_icmp .ge 23, 3) := by decide +kernel
theorem d_Md_products_6 : decode b_Md_products 6 = .ok (.aload_n 0, 1) := by decide +kernel
theorem d_Md_products_7 : decode b_Md_products 7 = .ok (.aload_n 0, 1) := by decide +kernel
theorem d_Md_products_8 : decode b_Md_products 8 = .ok (.iload_n 1, 1) := by decide +kernel
theorem d_Md_products_9 : decode b_Md_products 9 = .ok (.bipush 24, 2) := by decide +kernel
theorem d_Md_products_11 : decode b_Md_products 11 = .ok (.if_icmp .ne 7, 3) := by decide +kernel
theorem d_Md_products_14 : decode b_Md_products 14 = .ok (.iconst 1, 1) := by decide +kernel
theorem d_Md_products_15 : decode b_Md_products 15 = .ok (.goto 4, 3) := by decide +kernel
theorem d_Md_products_18 : decode b_Md_products 18 = .ok (.iconst 0, 1) := by decide +kernel
theorem d_Md_products_19 : decode b_Md_products 19 = .ok (.invokevirtual 165, 3) := by decide +kernel
theorem d_Md_products_22 : decode b_Md_products 22 = .ok (.invokevirtual 169, 3) := by decide +kernel
theorem d_Md_products_25 : decode b_Md_products 25 = .ok (.return_, 1) := by decide +kernel
theorem d_Md_products_26 : decode b_Md_products 26 = .ok (.aload_n 0, 1) := by decide +kernel
theorem d_Md_products_27 : decode b_Md_products 27 = .ok (.invokevirtual 135, 3) := by decide +kernel
theorem d_Md_products_30 : decode b_Md_products 30 = .ok (.ifCond .ne 14, 3) := by decide +kernel
theorem d_Md_products_33 : decode b_Md_products 33 = .ok (.aload_n 0, 1) := by decide +kernel
theorem d_Md_products_34 : decode b_Md_products 34 = .ok (.iconst 0, 1) := by decide +kernel
theorem d_Md_products_35 : decode b_Md_products 35 = .ok (.putfield 18, 3) := by decide +kernel
theorem d_Md_products_38 : decode b_Md_products 38 = .ok (.aload_n 0, 1) := by decide +kernel
theorem d_Md_products_39 : decode b_Md_products 39 = .ok (.iconst 0, 1) := by decide +kernel
theorem d_Md_products_40 : decode b_Md_products 40 = .ok (.putfield 22, 3) := by decide +kernel
theorem d_Md_products_43 : decode b_Md_products 43 = .ok (.return_, 1) := by decide +kernel
theorem d_Md_products_44 : decode b_Md_products 44 = .ok (.iload_n 1, 1) := by decide +kernel
theorem d_Md_products_45 : decode b_Md_products 45 = .ok (.bipush 26, 2) := by decide +kernel
theorem d_Md_products_47 : decode b_Md_products 47 = .ok (.if_icmp .ne 11, 3) := by decide +kernel
theorem d_Md_products_50 : decode b_Md_products 50 = .ok (.aload_n 0, 1) := by decide +kernel
theorem d_Md_products_51 : decode b_Md_products 51 = .ok (.invokevirtual 132, 3) := by decide +kernel
theorem d_Md_products_54 : decode b_Md_products 54 = .ok (.i2l, 1) := by decide +kernel
theorem d_Md_products_55 : decode b_Md_products 55 = .ok (.goto 12, 3) := by decide +kernel
theorem d_Md_products_58 : decode b_Md_products 58 = .ok (.aload_n 0, 1) := by decide +kernel
theorem d_Md_products_59 : decode b_Md_products 59 = .ok (.invokevirtual 132, 3) := by decide +kernel
theorem d_Md_products_62 : decode b_Md_products 62 = .ok (.i2l, 1) := by decide +kernel
theorem d_Md_products_63 : decode b_Md_products 63 = .ok (.ldc2_w 163, 3) := by decide +kernel
theorem d_Md_products_66 : decode b_Md_products 66 = .ok (.land, 1) := by decide +kernel
theorem d_Md_products_67 : decode b_Md_products 67 = .ok (.lstore_n 2, 1) := by decide +kernel
theorem d_Md_products_68 : decode b_Md_products 68 = .ok (.iload_n 1, 1) := by decide +kernel
theorem d_Md_products_69 : decode b_Md_products 69 = .ok (.bipush 26, 2) := by decide +kernel
theorem d_Md_products_71 : decode b_Md_products 71 = .ok (.if_icmp .ne 11, 3) := by decide +kernel
theorem d_Md_products_74 : decode b_Md_products 74 = .ok (.aload_n 0, 1) := by decide +kernel
theorem d_Md_products_75 : decode b_Md_products 75 = .ok (.invokevirtual 135, 3) := by decide +kernel
theorem d_Md_products_78 : decode b_Md_products 78 = .ok (.i2l, 1) := by decide +kernel
theorem d_Md_products_79 : decode b_Md_products 79 = .ok (.goto 12, 3) := by decide +kernel
theorem d_Md_products_82 : decode b_Md_products 82 = .ok (.aload_n 0, 1) := by decide +kernel
theorem d_Md_products_83 : decode b_Md_products 83 = .ok (.invokevirtual 135, 3) := by decide +kernel
theorem d_Md_products_86 : decode b_Md_products 86 = .ok (.i2l, 1) := by decide +kernel
theorem d_Md_products_87 : decode b_Md_products 87 = .ok (.ldc2_w 163, 3) := by decide +kernel
theorem d_Md_products_90 : decode b_Md_products 90 = .ok (.land, 1) := by decide +kernel
theorem d_Md_products_91 : decode b_Md_products 91 = .ok (.lstore 4, 2) := by decide +kernel
theorem d_Md_products_93 : decode b_Md_products 93 = .ok (.aload_n 0, 1) := by decide +kernel
theorem d_Md_products_94 : decode b_Md_products 94 = .ok (.lload_n 2, 1) := by decide +kernel
theorem d_Md_products_95 : decode b_Md_products 95 = .ok (.lload 4, 2) := by decide +kernel
theorem d_Md_products_97 : decode b_Md_products 97 = .ok (.lrem, 1) := by decide +kernel
theorem d_Md_products_98 : decode b_Md_products 98 = .ok (.bipush 32, 2) := by decide +kernel
theorem d_Md_products_100 : decode b_Md_products 100 = .ok (.lshl, 1) := by decide +kernel
theorem d_Md_products_101 : decode b_Md_products 101 = .ok (.lload_n 2, 1) := by decide +kernel
theorem d_Md_products_102 : decode b_Md_products 102 = .ok (.lload 4, 2) := by decide +kernel
theorem d_Md_products_104 : decode b_Md_products 104 = .ok (.ldiv, 1) := by decide +kernel
theorem d_Md_products_105 : decode b_Md_products 105 = .ok (.ldc2_w 163, 3) := by decide +kernel
theorem d_Md_products_108 : decode b_Md_products 108 = .ok (.land, 1) := by decide +kernel
theorem d_Md_products_109 : decode b_Md_products 109 = .ok (.lor, 1) := by decide +kernel
theorem d_Md_products_110 : decode b_Md_products 110 = .ok (.invokevirtual 169, 3) := by decide +kernel
theorem d_Md_products_113 : decode b_Md_products 113 = .ok (.return_, 1) := by decide +kernel
theorem d_Md_sum_IJZV_0 : decode b_Md_sum_IJZV 0 = .ok (.iload 4, 2) := by decide +kernel
theorem d_Md_sum_IJZV_2 : decode b_Md_sum_IJZV 2 = .ok (.ifCond .eq 16, 3) := by decide +kernel
theorem d_Md_sum_IJZV_5 : decode b_Md_sum_IJZV 5 = .ok (.lload_n 2, 1) := by decide +kernel
theorem d_Md_sum_IJZV_6 : decode b_Md_sum_IJZV 6 = .ok (.lload_n 2, 1) := by decide +kernel
theorem d_Md_sum_IJZV_7 : decode b_Md_sum_IJZV 7 = .ok (.l2i, 1) := by decide +kernel
theorem d_Md_sum_IJZV_8 : decode b_Md_sum_IJZV 8 = .ok (.i2l, 1) := by decide +kernel
theorem d_Md_sum_IJZV_9 : decode b_Md_sum_IJZV 9 = .ok (.lcmp, 1) := by decide +kernel
theorem d_Md_sum_IJZV_10 : decode b_Md_sum_IJZV 10 = .ok (.ifCond .eq 8, 3) := by decide +kernel
theorem d_Md_sum_IJZV_13 : decode b_Md_sum_IJZV 13 = .ok (.aload_n 0, 1) := by decide +kernel
theorem d_Md_sum_IJZV_14 : decode b_Md_sum_IJZV 14 = .ok (.iconst 4, 1) := by decide +kernel
theorem d_Md_sum_IJZV_15 : decode b_Md_sum_IJZV 15 = .ok (.invokevirtual 116, 3) := by decide +kernel
theorem d_Md_sum_IJZV_18 : decode b_Md_sum_IJZV 18 = .ok (.aload_n 0, 1) := by decide +kernel
theorem d_Md_sum_IJZV_19 : decode b_Md_sum_IJZV 19 = .ok (.iload_n 1, 1) := by decide +kernel
theorem d_Md_sum_IJZV_20 : decode b_Md_sum_IJZV 20 = .ok (.lload_n 2, 1) := by decide +kernel
theorem d_Md_sum_IJZV_21 : decode b_Md_sum_IJZV 21 = .ok (.l2i, 1) := by decide +kernel
theorem d_Md_sum_IJZV_22 : decode b_Md_sum_IJZV 22 = .ok (.invokevirtual 128, 3) := by decide +kernel
theorem d_Md_sum_IJZV_25 : decode b_Md_sum_IJZV 25 = .ok (.return_, 1) := by decide +kernel
theorem d_Md_below_0 : decode b_Md_below 0 = .ok (.iload_n 0, 1) := by decide +kernel
theorem d_Md_below_1 : decode b_Md_below 1 = .ok (.ldc 144, 2) := by decide +kernel
theorem d_Md_below_3 : decode b_Md_below 3 = .ok (.iadd, 1) := by decide +kernel
theorem d_Md_below_4 : decode b_Md_below 4 = .ok (.iload_n 1, 1) := by decide +kernel
theorem d_Md_below_5 : decode b_Md_below 5 = .ok (.ldc 144, 2) := by decide +kernel
theorem d_Md_below_7 : decode b_Md_below 7 = .ok (.iadd, 1) := by decide +kernel
theorem d_Md_below_8 : decode b_Md_below 8 = .ok (.if_icmp .ge 7, 3) := by decide +kernel
theorem d_Md_below_11 : decode b_Md_below 11 = .ok (.iconst 1, 1) := by decide +kernel
theorem d_Md_below_12 : decode b_Md_below 12 = .ok (.goto 4, 3) := by decide +kernel
theorem d_Md_below_15 : decode b_Md_below 15 = .ok (.iconst 0, 1) := by decide +kernel
theorem d_Md_below_16 : decode b_Md_below 16 = .ok (.ireturn, 1) := by decide +kernel
theorem d_Md_alu_0 : decode b_Md_alu 0 = .ok (.aload_n 0, 1) := by decide +kernel
theorem d_Md_alu_1 : decode b_Md_alu 1 = .ok (.invokevirtual 132, 3) := by decide +kernel
theorem d_Md_alu_4 : decode b_Md_alu 4 = .ok (.istore_n 2, 1) := by decide +kernel
theorem d_Md_alu_5 : decode b_Md_alu 5 = .ok (.aload_n 0, 1) := by decide +kernel
theorem d_Md_alu_6 : decode b_Md_alu 6 = .ok (.invokevirtual 135, 3) := by decide +kernel
theorem d_Md_alu_9 : decode b_Md_alu 9 = .ok (.istore_n 3, 1) := by decide +kernel
theorem d_Md_alu_10 : decode b_Md_alu 10 = .ok (.aload_n 0, 1) := by decide +kernel
theorem d_Md_alu_11 : decode b_Md_alu 11 = .ok (.bipush 11, 2) := by decide +kernel
theorem d_Md_alu_13 : decode b_Md_alu 13 = .ok (.invokevirtual 85, 3) := by decide +kernel
theorem d_Md_alu_16 : decode b_Md_alu 16 = .ok (.istore 4, 2) := by decide +kernel
theorem d_Md_alu_18 : decode b_Md_alu 18 = .ok (.iload_n 1, 1) := by decide +kernel
theorem d_Md_alu_19 : decode b_Md_alu 19 = .ok (.tableswitch 176 32 42 #[57, 57, 82, 82, 107, 119, 131, 143, 176, 176, 157], 57) := by decide +kernel
theorem d_Md_alu_76 : decode b_Md_alu 76 = .ok (.aload_n 0, 1) := by decide +kernel
theorem d_Md_alu_77 : decode b_Md_alu 77 = .ok (.iload 4, 2) := by decide +kernel
theorem d_Md_alu_79 : decode b_Md_alu 79 = .ok (.iload_n 2, 1) := by decide +kernel
theorem d_Md_alu_80 : decode b_Md_alu 80 = .ok (.i2l, 1) := by decide +kernel
theorem d_Md_alu_81 : decode b_Md_alu 81 = .ok (.iload_n 3, 1) := by decide +kernel
theorem d_Md_alu_82 : decode b_Md_alu 82 = .ok (.i2l, 1) := by decide +kernel
theorem d_Md_alu_83 : decode b_Md_alu 83 = .ok (.ladd, 1) := by decide +kernel
theorem d_Md_alu_84 : decode b_Md_alu 84 = .ok (.iload_n 1, 1) := by decide +kernel
theorem d_Md_alu_85 : decode b_Md_alu 85 = .ok (.bipush 32, 2) := by decide +kernel
theorem d_Md_alu_87 : decode b_Md_alu 87 = .ok (.if_icmp .ne 7, 3) := by decide +kernel
theorem d_Md_alu_90 : decode b_Md_alu 90 = .ok (.iconst 1, 1) := by decide +kernel
theorem d_Md_alu_91 : decode b_Md_alu 91 = .ok (.goto 4, 3) := by decide +kernel
theorem d_Md_alu_94 : decode b_Md_alu 94 = .ok (.iconst 0, 1) := by decide +kernel
theorem d_Md_alu_95 : decode b_Md_alu 95 = .ok (.invokevirtual 173, 3) := by decide +kernel
theorem d_Md_alu_98 : decode b_Md_alu 98 = .ok (.goto 116, 3) := by decide +kernel
theorem d_Md_alu_101 : decode b_Md_alu 101 = .ok (.aload_n 0, 1) := by decide +kernel
theorem d_Md_alu_102 : decode b_Md_alu 102 = .ok (.iload 4, 2) := by decide +kernel
theorem d_Md_alu_104 : decode b_Md_alu 104 = .ok (.iload_n 2, 1) := by decide +kernel
theorem d_Md_alu_105 : decode b_Md_alu 105 = .ok (.i2l, 1) := by decide +kernel
theorem d_Md_alu_106 : decode b_Md_alu 106 = .ok (.iload_n 3, 1) := by decide +kernel
theorem d_Md_alu_107 : decode b_Md_alu 107 = .ok (.i2l, 1) := by decide +kernel
theorem d_Md_alu_108 : decode b_Md_alu 108 = .ok (.lsub, 1) := by decide +kernel
theorem d_Md_alu_109 : decode b_Md_alu 109 = .ok (.iload_n 1, 1) := by decide +kernel
theorem d_Md_alu_110 : decode b_Md_alu 110 = .ok (.bipush 34, 2) := by decide +kernel
theorem d_Md_alu_112 : decode b_Md_alu 112 = .ok (.if_icmp .ne 7, 3) := by decide +kernel
theorem d_Md_alu_115 : decode b_Md_alu 115 = .ok (.iconst 1, 1) := by decide +kernel
theorem d_Md_alu_116 : decode b_Md_alu 116 = .ok (.goto 4, 3) := by decide +kernel
theorem d_Md_alu_119 : decode b_Md_alu 119 = .ok (.iconst 0, 1) := by decide +kernel
theorem d_Md_alu_120 : decode b_Md_alu 120 = .ok (.invokevirtual 173, 3) := by decide +kernel
theorem d_Md_alu_123 : decode b_Md_alu 123 = .ok (.goto 91, 3) := by decide +kernel
theorem d_Md_alu_126 : decode b_Md_alu 126 = .ok (.aload_n 0, 1) := by decide +kernel
theorem d_Md_alu_127 : decode b_Md_alu 127 = .ok (.iload 4, 2) := by decide +kernel
theorem d_Md_alu_129 : decode b_Md_alu 129 = .ok (.iload_n 2, 1) := by decide +kernel
theorem d_Md_alu_130 : decode b_Md_alu 130 = .ok (.iload_n 3, 1) := by decide +kernel
theorem d_Md_alu_131 : decode b_Md_alu 131 = .ok (.iand, 1) := by decide +kernel
theorem d_Md_alu_132 : decode b_Md_alu 132 = .ok (.invokevirtual 128, 3) := by decide +kernel
theorem d_Md_alu_135 : decode b_Md_alu 135 = .ok (.goto 79, 3) := by decide +kernel
theorem d_Md_alu_138 : decode b_Md_alu 138 = .ok (.aload_n 0, 1) := by decide +kernel
theorem d_Md_alu_139 : decode b_Md_alu 139 = .ok (.iload 4, 2) := by decide +kernel
theorem d_Md_alu_141 : decode b_Md_alu 141 = .ok (.iload_n 2, 1) := by decide +kernel
theorem d_Md_alu_142 : decode b_Md_alu 142 = .ok (.iload_n 3, 1) := by decide +kernel
theorem d_Md_alu_143 : decode b_Md_alu 143 = .ok (.ior, 1) := by decide +kernel
theorem d_Md_alu_144 : decode b_Md_alu 144 = .ok (.invokevirtual 128, 3) := by decide +kernel
theorem d_Md_alu_147 : decode b_Md_alu 147 = .ok (.goto 67, 3) := by decide +kernel
theorem d_Md_alu_150 : decode b_Md_alu 150 = .ok (.aload_n 0, 1) := by decide +kernel
theorem d_Md_alu_151 : decode b_Md_alu 151 = .ok (.iload 4, 2) := by decide +kernel
theorem d_Md_alu_153 : decode b_Md_alu 153 = .ok (.iload_n 2, 1) := by decide +kernel
theorem d_Md_alu_154 : decode b_Md_alu 154 = .ok (.iload_n 3, 1) := by decide +kernel
theorem d_Md_alu_155 : decode b_Md_alu 155 = .ok (.ixor, 1) := by decide +kernel
theorem d_Md_alu_156 : decode b_Md_alu 156 = .ok (.invokevirtual 128, 3) := by decide +kernel
theorem d_Md_alu_159 : decode b_Md_alu 159 = .ok (.goto 55, 3) := by decide +kernel
theorem d_Md_alu_162 : decode b_Md_alu 162 = .ok (.aload_n 0, 1) := by decide +kernel
theorem d_Md_alu_163 : decode b_Md_alu 163 = .ok (.iload 4, 2) := by decide +kernel
theorem d_Md_alu_165 : decode b_Md_alu 165 = .ok (.iload_n 2, 1) := by decide +kernel
theorem d_Md_alu_166 : decode b_Md_alu 166 = .ok (.iload_n 3, 1) := by decide +kernel
theorem d_Md_alu_167 : decode b_Md_alu 167 = .ok (.ior, 1) := by decide +kernel
theorem d_Md_alu_168 : decode b_Md_alu 168 = .ok (.iconst (-1), 1) := by decide +kernel
theorem d_Md_alu_169 : decode b_Md_alu 169 = .ok (.ixor, 1) := by decide +kernel
theorem d_Md_alu_170 : decode b_Md_alu 170 = .ok (.invokevirtual 128, 3) := by decide +kernel
theorem d_Md_alu_173 : decode b_Md_alu 173 = .ok (.goto 41, 3) := by decide +kernel
theorem d_Md_alu_176 : decode b_Md_alu 176 = .ok (.aload_n 0, 1) := by decide +kernel
theorem d_Md_alu_177 : decode b_Md_alu 177 = .ok (.iload 4, 2) := by decide +kernel
theorem d_Md_alu_179 : decode b_Md_alu 179 = .ok (.iload_n 2, 1) := by decide +kernel
theorem d_Md_alu_180 : decode b_Md_alu 180 = .ok (.iload_n 3, 1) := by decide +kernel
theorem d_Md_alu_181 : decode b_Md_alu 181 = .ok (.if_icmp .ge 7, 3) := by decide +kernel
theorem d_Md_alu_184 : decode b_Md_alu 184 = .ok (.iconst 1, 1) := by decide +kernel
theorem d_Md_alu_185 : decode b_Md_alu 185 = .ok (.goto 4, 3) := by decide +kernel
theorem d_Md_alu_188 : decode b_Md_alu 188 = .ok (.iconst 0, 1) := by decide +kernel
theorem d_Md_alu_189 : decode b_Md_alu 189 = .ok (.invokevirtual 128, 3) := by decide +kernel
theorem d_Md_alu_192 : decode b_Md_alu 192 = .ok (.goto 22, 3) := by decide +kernel
theorem d_Md_alu_195 : decode b_Md_alu 195 = .ok (.aload_n 0, 1) := by decide +kernel
theorem d_Md_alu_196 : decode b_Md_alu 196 = .ok (.iload 4, 2) := by decide +kernel
theorem d_Md_alu_198 : decode b_Md_alu 198 = .ok (.iload_n 2, 1) := by decide +kernel
theorem d_Md_alu_199 : decode b_Md_alu 199 = .ok (.iload_n 3, 1) := by decide +kernel
theorem d_Md_alu_200 : decode b_Md_alu 200 = .ok (.invokestatic 145, 3) := by decide +kernel
theorem d_Md_alu_203 : decode b_Md_alu 203 = .ok (.ifCond .eq 7, 3) := by decide +kernel
theorem d_Md_alu_206 : decode b_Md_alu 206 = .ok (.iconst 1, 1) := by decide +kernel
theorem d_Md_alu_207 : decode b_Md_alu 207 = .ok (.goto 4, 3) := by decide +kernel
theorem d_Md_alu_210 : decode b_Md_alu 210 = .ok (.iconst 0, 1) := by decide +kernel
theorem d_Md_alu_211 : decode b_Md_alu 211 = .ok (.invokevirtual 128, 3) := by decide +kernel
theorem d_Md_alu_214 : decode b_Md_alu 214 = .ok (.return_, 1) := by decide +kernel
theorem d_Md_trap_0 : decode b_Md_trap 0 = .ok (.iload_n 1, 1) := by decide +kernel
theorem d_Md_trap_1 : decode b_Md_trap 1 = .ok (.ifCond .ne 16, 3) := by decide +kernel
theorem d_Md_trap_4 : decode b_Md_trap 4 = .ok (.iload_n 2, 1) := by decide +kernel
theorem d_Md_trap_5 : decode b_Md_trap 5 = .ok (.iload_n 3, 1) := by decide +kernel
theorem d_Md_trap_6 : decode b_Md_trap 6 = .ok (.if_icmp .lt 7, 3) := by decide +kernel
theorem d_Md_trap_9 : decode b_Md_trap 9 = .ok (.iconst 1, 1) := by decide +kernel
theorem d_Md_trap_10 : decode b_Md_trap 10 = .ok (.goto 87, 3) := by decide +kernel
theorem d_Md_trap_13 : decode b_Md_trap 13 = .ok (.iconst 0, 1) := by decide +kernel
theorem d_Md_trap_14 : decode b_Md_trap 14 = .ok (.goto 83, 3) := by decide +kernel
theorem d_Md_trap_17 : decode b_Md_trap 17 = .ok (.iload_n 1, 1) := by decide +kernel
theorem d_Md_trap_18 : decode b_Md_trap 18 = .ok (.iconst 1, 1) := by decide +kernel
theorem d_Md_trap_19 : decode b_Md_trap 19 = .ok (.if_icmp .ne 19, 3) := by decide +kernel
theorem d_Md_trap_22 : decode b_Md_trap 22 = .ok (.iload_n 2, 1) := by decide +kernel
theorem d_Md_trap_23 : decode b_Md_trap 23 = .ok (.iload_n 3, 1) := by decide +kernel
theorem d_Md_trap_24 : decode b_Md_trap 24 = .ok (.invokestatic 145, 3) := by decide +kernel
theorem d_Md_trap_27 : decode b_Md_trap 27 = .ok (.ifCond .ne 7, 3) := by decide +kernel
theorem d_Md_trap_30 : decode b_Md_trap 30 = .ok (.iconst 1, 1) := by decide +kernel
theorem d_Md_trap_31 : decode b_Md_trap 31 = .ok (.goto 66, 3) := by decide +kernel
theorem d_Md_trap_34 : decode b_Md_trap 34 = .ok (.iconst 0, 1) := by decide +kernel
theorem d_Md_trap_35 : decode b_Md_trap 35 = .ok (.goto 62, 3) := by decide +kernel
theorem d_Md_trap_38 : decode b_Md_trap 38 = .ok (.iload_n 1, 1) := by decide +kernel
theorem d_Md_trap_39 : decode b_Md_trap 39 = .ok (.iconst 2, 1) := by decide +kernel
theorem d_Md_trap_40 : decode b_Md_trap 40 = .ok (.if_icmp .ne 16, 3) := by decide +kernel
theorem d_Md_trap_43 : decode b_Md_trap 43 = .ok (.iload_n 2, 1) := by decide +kernel
theorem d_Md_trap_44 : decode b_Md_trap 44 = .ok (.iload_n 3, 1) := by decide +kernel
theorem d_Md_trap_45 : decode b_Md_trap 45 = .ok (.if_icmp .ge 7, 3) := by decide +kernel
theorem d_Md_trap_48 : decode b_Md_trap 48 = .ok (.iconst 1, 1) := by decide +kernel
theorem d_Md_trap_49 : decode b_Md_trap 49 = .ok (.goto 48, 3) := by decide +kernel
theorem d_Md_trap_52 : decode b_Md_trap 52 = .ok (.iconst 0, 1) := by decide +kernel
theorem d_Md_trap_53 : decode b_Md_trap 53 = .ok (.goto 44, 3) := by decide +kernel
theorem d_Md_trap_56 : decode b_Md_trap 56 = .ok (.iload_n 1, 1) := by decide +kernel
theorem d_Md_trap_57 : decode b_Md_trap 57 = .ok (.iconst 3, 1) := by decide +kernel
theorem d_Md_trap_58 : decode b_Md_trap 58 = .ok (.if_icmp .ne 11, 3) := by decide +kernel
theorem d_Md_trap_61 : decode b_Md_trap 61 = .ok (.iload_n 2, 1) := by decide +kernel
theorem d_Md_trap_62 : decode b_Md_trap 62 = .ok (.iload_n 3, 1) := by decide +kernel
theorem d_Md_trap_63 : decode b_Md_trap 63 = .ok (.invokestatic 145, 3) := by decide +kernel
theorem d_Md_trap_66 : decode b_Md_trap 66 = .ok (.goto 31, 3) := by decide +kernel
theorem d_Md_trap_69 : decode b_Md_trap 69 = .ok (.iload_n 1, 1) := by decide +kernel
theorem d_Md_trap_70 : decode b_Md_trap 70 = .ok (.iconst 4, 1) := by decide +kernel
theorem d_Md_trap_71 : decode b_Md_trap 71 = .ok (.if_icmp .ne 16, 3) := by decide +kernel
theorem d_Md_trap_74 : decode b_Md_trap 74 = .ok (.iload_n 2, 1) := by decide +kernel
theorem d_Md_trap_75 : decode b_Md_trap 75 = .ok (.iload_n 3, 1) := by decide +kernel
theorem d_Md_trap_76 : decode b_Md_trap 76 = .ok (.if_icmp .ne 7, 3) := by decide +kernel
theorem d_Md_trap_79 : decode b_Md_trap 79 = .ok (.iconst 1, 1) := by decide +kernel
theorem d_Md_trap_80 : decode b_Md_trap 80 = .ok (.goto 17, 3) := by decide +kernel
theorem d_Md_trap_83 : decode b_Md_trap 83 = .ok (.iconst 0, 1) := by decide +kernel
theorem d_Md_trap_84 : decode b_Md_trap 84 = .ok (.goto 13, 3) := by decide +kernel
theorem d_Md_trap_87 : decode b_Md_trap 87 = .ok (.iload_n 2, 1) := by decide +kernel
theorem d_Md_trap_88 : decode b_Md_trap 88 = .ok (.iload_n 3, 1) := by decide +kernel
theorem d_Md_trap_89 : decode b_Md_trap 89 = .ok (.if_icmp .eq 7, 3) := by decide +kernel
theorem d_Md_trap_92 : decode b_Md_trap 92 = .ok (.iconst 1, 1) := by decide +kernel
theorem d_Md_trap_93 : decode b_Md_trap 93 = .ok (.goto 4, 3) := by decide +kernel
theorem d_Md_trap_96 : decode b_Md_trap 96 = .ok (.iconst 0, 1) := by decide +kernel
theorem d_Md_trap_97 : decode b_Md_trap 97 = .ok (.istore 4, 2) := by decide +kernel
theorem d_Md_trap_99 : decode b_Md_trap 99 = .ok (.iload 4, 2) := by decide +kernel
theorem d_Md_trap_101 : decode b_Md_trap 101 = .ok (.ifCond .eq 8, 3) := by decide +kernel
theorem d_Md_trap_104 : decode b_Md_trap 104 = .ok (.aload_n 0, 1) := by decide +kernel
theorem d_Md_trap_105 : decode b_Md_trap 105 = .ok (.iconst 5, 1) := by decide +kernel
theorem d_Md_trap_106 : decode b_Md_trap 106 = .ok (.invokevirtual 116, 3) := by decide +kernel
theorem d_Md_trap_109 : decode b_Md_trap 109 = .ok (.return_, 1) := by decide +kernel
theorem d_Md_special_0 : decode b_Md_special 0 = .ok (.iload_n 1, 1) := by decide +kernel
theorem d_Md_special_1 : decode b_Md_special 1 = .ok (.bipush 8, 2) := by decide +kernel
theorem d_Md_special_3 : decode b_Md_special 3 = .ok (.if_icmp .ge 11, 3) := by decide +kernel
theorem d_Md_special_6 : decode b_Md_special 6 = .ok (.aload_n 0, 1) := by decide +kernel
theorem d_Md_special_7 : decode b_Md_special 7 = .ok (.iload_n 1, 1) := by decide +kernel
theorem d_Md_special_8 : decode b_Md_special 8 = .ok (.invokevirtual 148, 3) := by decide +kernel
theorem d_Md_special_11 : decode b_Md_special 11 = .ok (.goto 125, 3) := by decide +kernel
theorem d_Md_special_14 : decode b_Md_special 14 = .ok (.iload_n 1, 1) := by decide +kernel
theorem d_Md_special_15 : decode b_Md_special 15 = .ok (.bipush 16, 2) := by decide +kernel
theorem d_Md_special_17 : decode b_Md_special 17 = .ok (.if_icmp .ge 11, 3) := by decide +kernel
theorem d_Md_special_20 : decode b_Md_special 20 = .ok (.aload_n 0, 1) := by decide +kernel
theorem d_Md_special_21 : decode b_Md_special 21 = .ok (.iload_n 1, 1) := by decide +kernel
theorem d_Md_special_22 : decode b_Md_special 22 = .ok (.invokevirtual 151, 3) := by decide +kernel
theorem d_Md_special_25 : decode b_Md_special 25 = .ok (.goto 111, 3) := by decide +kernel
theorem d_Md_special_28 : decode b_Md_special 28 = .ok (.iload_n 1, 1) := by decide +kernel
theorem d_Md_special_29 : decode b_Md_special 29 = .ok (.bipush 20, 2) := by decide +kernel
theorem d_Md_special_31 : decode b_Md_special 31 = .ok (.if_icmp .ge 11, 3) := by decide +kernel
theorem d_Md_special_34 : decode b_Md_special 34 = .ok (.aload_n 0, 1) := by decide +kernel
theorem d_Md_special_35 : decode b_Md_special 35 = .ok (.iload_n 1, 1) := by decide +kernel
theorem d_Md_special_36 : decode b_Md_special 36 = .ok (.invokevirtual 154, 3) := by decide +kernel
theorem d_Md_special_39 : decode b_Md_special 39 = .ok (.goto 97, 3) := by decide +kernel
theorem d_Md_special_42 : decode b_Md_special 42 = .ok (.iload_n 1, 1) := by decide +kernel
theorem d_Md_special_43 : decode b_Md_special 43 = .ok (.bipush 24, 2) := by decide +kernel
theorem d_Md_special_45 : decode b_Md_special 45 = .ok (.if_icmp .lt 17, 3) := by decide +kernel
theorem d_Md_special_48 : decode b_Md_special 48 = .ok (.iload_n 1, 1) := by decide +kernel
theorem d_Md_special_49 : decode b_Md_special 49 = .ok (.bipush 28, 2) := by decide +kernel
theorem d_Md_special_51 : decode b_Md_special 51 = .ok (.if_icmp .ge 11, 3) := by decide +kernel
theorem d_Md_special_54 : decode b_Md_special 54 = .ok (.aload_n 0, 1) := by decide +kernel
theorem d_Md_special_55 : decode b_Md_special 55 = .ok (.iload_n 1, 1) := by decide +kernel
theorem d_Md_special_56 : decode b_Md_special 56 = .ok (.invokevirtual 157, 3) := by decide +kernel
theorem d_Md_special_59 : decode b_Md_special 59 = .ok (.goto 77, 3) := by decide +kernel
theorem d_Md_special_62 : decode b_Md_special 62 = .ok (.iload_n 1, 1) := by decide +kernel
theorem d_Md_special_63 : decode b_Md_special 63 = .ok (.bipush 32, 2) := by decide +kernel
theorem d_Md_special_65 : decode b_Md_special 65 = .ok (.if_icmp .lt 29, 3) := by decide +kernel
theorem d_Md_special_68 : decode b_Md_special 68 = .ok (.iload_n 1, 1) := by decide +kernel
theorem d_Md_special_69 : decode b_Md_special 69 = .ok (.bipush 44, 2) := by decide +kernel
theorem d_Md_special_71 : decode b_Md_special 71 = .ok (.if_icmp .ge 23, 3) := by decide +kernel
theorem d_Md_special_74 : decode b_Md_special 74 = .ok (.iload_n 1, 1) := by decide +kernel
theorem d_Md_special_75 : decode b_Md_special 75 = .ok (.bipush 40, 2) := by decide +kernel
theorem d_Md_special_77 : decode b_Md_special 77 = .ok (.if_icmp .eq 17, 3) := by decide +kernel
theorem d_Md_special_80 : decode b_Md_special 80 = .ok (.iload_n 1, 1) := by decide +kernel
theorem d_Md_special_81 : decode b_Md_special 81 = .ok (.bipush 41, 2) := by decide +kernel
theorem d_Md_special_83 : decode b_Md_special 83 = .ok (.if_icmp .eq 11, 3) := by decide +kernel
theorem d_Md_special_86 : decode b_Md_special 86 = .ok (.aload_n 0, 1) := by decide +kernel
theorem d_Md_special_87 : decode b_Md_special 87 = .ok (.iload_n 1, 1) := by decide +kernel
theorem d_Md_special_88 : decode b_Md_special 88 = .ok (.invokevirtual 160, 3) := by decide +kernel
theorem d_Md_special_91 : decode b_Md_special 91 = .ok (.goto 45, 3) := by decide +kernel
theorem d_Md_special_94 : decode b_Md_special 94 = .ok (.iload_n 1, 1) := by decide +kernel
theorem d_Md_special_95 : decode b_Md_special 95 = .ok (.bipush 48, 2) := by decide +kernel
theorem d_Md_special_97 : decode b_Md_special 97 = .ok (.if_icmp .lt 34, 3) := by decide +kernel
theorem d_Md_special_100 : decode b_Md_special 100 = .ok (.iload_n 1, 1) := by decide +kernel
theorem d_Md_special_101 : decode b_Md_special 101 = .ok (.bipush 55, 2) := by decide +kernel
theorem d_Md_special_103 : decode b_Md_special 103 = .ok (.if_icmp .ge 28, 3) := by decide +kernel
theorem d_Md_special_106 : decode b_Md_special 106 = .ok (.iload_n 1, 1) := by decide +kernel
theorem d_Md_special_107 : decode b_Md_special 107 = .ok (.bipush 53, 2) := by decide +kernel
theorem d_Md_special_109 : decode b_Md_special 109 = .ok (.if_icmp .eq 22, 3) := by decide +kernel
theorem d_Md_special_112 : decode b_Md_special 112 = .ok (.aload_n 0, 1) := by decide +kernel
theorem d_Md_special_113 : decode b_Md_special 113 = .ok (.iload_n 1, 1) := by decide +kernel
theorem d_Md_special_114 : decode b_Md_special 114 = .ok (.bipush 48, 2) := by decide +kernel
theorem d_Md_special_116 : decode b_Md_special 116 = .ok (.isub, 1) := by decide +kernel
theorem d_Md_special_117 : decode b_Md_special 117 = .ok (.aload_n 0, 1) := by decide +kernel
theorem d_Md_special_118 : decode b_Md_special 118 = .ok (.invokevirtual 132, 3) := by decide +kernel
theorem d_Md_special_121 : decode b_Md_special 121 = .ok (.aload_n 0, 1) := by decide +kernel
theorem d_Md_special_122 : decode b_Md_special 122 = .ok (.invokevirtual 135, 3) := by decide +kernel
theorem d_Md_special_125 : decode b_Md_special 125 = .ok (.invokevirtual 141, 3) := by decide +kernel
theorem d_Md_special_128 : decode b_Md_special 128 = .ok (.goto 8, 3) := by decide +kernel
theorem d_Md_special_131 : decode b_Md_special 131 = .ok (.aload_n 0, 1) := by decide +kernel
theorem d_Md_special_132 : decode b_Md_special 132 = .ok (.iconst 3, 1) := by decide +kernel
theorem d_Md_special_133 : decode b_Md_special 133 = .ok (.invokevirtual 116, 3) := by decide +kernel
theorem d_Md_special_136 : decode b_Md_special 136 = .ok (.return_, 1) := by decide +kernel
theorem d_Md_offset_0 : decode b_Md_offset 0 = .ok (.aload_n 0, 1) := by decide +kernel
theorem d_Md_offset_1 : decode b_Md_offset 1 = .ok (.getfield 82, 3) := by decide +kernel
theorem d_Md_offset_4 : decode b_Md_offset 4 = .ok (.bipush 16, 2) := by decide +kernel
theorem d_Md_offset_6 : decode b_Md_offset 6 = .ok (.ishl, 1) := by decide +kernel
theorem d_Md_offset_7 : decode b_Md_offset 7 = .ok (.bipush 16, 2) := by decide +kernel
theorem d_Md_offset_9 : decode b_Md_offset 9 = .ok (.ishr, 1) := by decide +kernel
theorem d_Md_offset_10 : decode b_Md_offset 10 = .ok (.ireturn, 1) := by decide +kernel
theorem d_Md_near_0 : decode b_Md_near 0 = .ok (.aload_n 0, 1) := by decide +kernel
theorem d_Md_near_1 : decode b_Md_near 1 = .ok (.getfield 54, 3) := by decide +kernel
theorem d_Md_near_4 : decode b_Md_near 4 = .ok (.iconst 4, 1) := by decide +kernel
theorem d_Md_near_5 : decode b_Md_near 5 = .ok (.iadd, 1) := by decide +kernel
theorem d_Md_near_6 : decode b_Md_near 6 = .ok (.aload_n 0, 1) := by decide +kernel
theorem d_Md_near_7 : decode b_Md_near 7 = .ok (.invokevirtual 119, 3) := by decide +kernel
theorem d_Md_near_10 : decode b_Md_near 10 = .ok (.iconst 2, 1) := by decide +kernel
theorem d_Md_near_11 : decode b_Md_near 11 = .ok (.ishl, 1) := by decide +kernel
theorem d_Md_near_12 : decode b_Md_near 12 = .ok (.iadd, 1) := by decide +kernel
theorem d_Md_near_13 : decode b_Md_near 13 = .ok (.ireturn, 1) := by decide +kernel
theorem d_Md_immediate_0 : decode b_Md_immediate 0 = .ok (.iload_n 1, 1) := by decide +kernel
theorem d_Md_immediate_1 : decode b_Md_immediate 1 = .ok (.bipush 16, 2) := by decide +kernel
theorem d_Md_immediate_3 : decode b_Md_immediate 3 = .ok (.if_icmp .lt 13, 3) := by decide +kernel
theorem d_Md_immediate_6 : decode b_Md_immediate 6 = .ok (.iload_n 1, 1) := by decide +kernel
theorem d_Md_immediate_7 : decode b_Md_immediate 7 = .ok (.bipush 20, 2) := by decide +kernel
theorem d_Md_immediate_9 : decode b_Md_immediate 9 = .ok (.if_icmp .ge 7, 3) := by decide +kernel
theorem d_Md_immediate_12 : decode b_Md_immediate 12 = .ok (.iconst 1, 1) := by decide +kernel
theorem d_Md_immediate_13 : decode b_Md_immediate 13 = .ok (.goto 4, 3) := by decide +kernel
theorem d_Md_immediate_16 : decode b_Md_immediate 16 = .ok (.iconst 0, 1) := by decide +kernel
theorem d_Md_immediate_17 : decode b_Md_immediate 17 = .ok (.istore_n 2, 1) := by decide +kernel
theorem d_Md_immediate_18 : decode b_Md_immediate 18 = .ok (.iload_n 1, 1) := by decide +kernel
theorem d_Md_immediate_19 : decode b_Md_immediate 19 = .ok (.iconst 4, 1) := by decide +kernel
theorem d_Md_immediate_20 : decode b_Md_immediate 20 = .ok (.if_icmp .lt 7, 3) := by decide +kernel
theorem d_Md_immediate_23 : decode b_Md_immediate 23 = .ok (.iload_n 2, 1) := by decide +kernel
theorem d_Md_immediate_24 : decode b_Md_immediate 24 = .ok (.ifCond .eq 102, 3) := by decide +kernel
