theorem d_Co_held_59 : decode b_Co_held 59 = .ok (.aload_n 0, 1) := by decide +kernel
theorem d_Co_held_60 : decode b_Co_held 60 = .ok (.getfield 23, 3) := by decide +kernel
theorem d_Co_held_63 : decode b_Co_held 63 = .ok (.getfield 137, 3) := by decide +kernel
theorem d_Co_held_66 : decode b_Co_held 66 = .ok (.getfield 141, 3) := by decide +kernel
theorem d_Co_held_69 : decode b_Co_held 69 = .ok (.iload_n 1, 1) := by decide +kernel
theorem d_Co_held_70 : decode b_Co_held 70 = .ok (.bipush 34, 2) := by decide +kernel
theorem d_Co_held_72 : decode b_Co_held 72 = .ok (.isub, 1) := by decide +kernel
theorem d_Co_held_73 : decode b_Co_held 73 = .ok (.bipush 31, 2) := by decide +kernel
theorem d_Co_held_75 : decode b_Co_held 75 = .ok (.iand, 1) := by decide +kernel
theorem d_Co_held_76 : decode b_Co_held 76 = .ok (.iaload, 1) := by decide +kernel
theorem d_Co_held_77 : decode b_Co_held 77 = .ok (.ireturn, 1) := by decide +kernel
theorem d_Co_held_78 : decode b_Co_held 78 = .ok (.aload_n 0, 1) := by decide +kernel
theorem d_Co_held_79 : decode b_Co_held 79 = .ok (.getfield 23, 3) := by decide +kernel
theorem d_Co_held_82 : decode b_Co_held 82 = .ok (.getfield 137, 3) := by decide +kernel
theorem d_Co_held_85 : decode b_Co_held 85 = .ok (.getfield 144, 3) := by decide +kernel
theorem d_Co_held_88 : decode b_Co_held 88 = .ok (.ireturn, 1) := by decide +kernel
theorem d_Co_hold_0 : decode b_Co_hold 0 = .ok (.iload_n 1, 1) := by decide +kernel
theorem d_Co_hold_1 : decode b_Co_hold 1 = .ok (.bipush 32, 2) := by decide +kernel
theorem d_Co_hold_3 : decode b_Co_hold 3 = .ok (.if_icmp .ge 15, 3) := by decide +kernel
theorem d_Co_hold_6 : decode b_Co_hold 6 = .ok (.aload_n 0, 1) := by decide +kernel
theorem d_Co_hold_7 : decode b_Co_hold 7 = .ok (.getfield 23, 3) := by decide +kernel
theorem d_Co_hold_10 : decode b_Co_hold 10 = .ok (.iload_n 1, 1) := by decide +kernel
theorem d_Co_hold_11 : decode b_Co_hold 11 = .ok (.iload_n 2, 1) := by decide +kernel
theorem d_Co_hold_12 : decode b_Co_hold 12 = .ok (.invokevirtual 147, 3) := by decide +kernel
theorem d_Co_hold_15 : decode b_Co_hold 15 = .ok (.goto 86, 3) := by decide +kernel
theorem d_Co_hold_18 : decode b_Co_hold 18 = .ok (.iload_n 1, 1) := by decide +kernel
theorem d_Co_hold_19 : decode b_Co_hold 19 = .ok (.bipush 32, 2) := by decide +kernel
theorem d_Co_hold_21 : decode b_Co_hold 21 = .ok (.if_icmp .ne 17, 3) := by decide +kernel
theorem d_Co_hold_24 : decode b_Co_hold 24 = .ok (.aload_n 0, 1) := by decide +kernel
theorem d_Co_hold_25 : decode b_Co_hold 25 = .ok (.getfield 23, 3) := by decide +kernel
theorem d_Co_hold_28 : decode b_Co_hold 28 = .ok (.getfield 68, 3) := by decide +kernel
theorem d_Co_hold_31 : decode b_Co_hold 31 = .ok (.iload_n 2, 1) := by decide +kernel
theorem d_Co_hold_32 : decode b_Co_hold 32 = .ok (.invokevirtual 149, 3) := by decide +kernel
theorem d_Co_hold_35 : decode b_Co_hold 35 = .ok (.goto 66, 3) := by decide +kernel
theorem d_Co_hold_38 : decode b_Co_hold 38 = .ok (.iload_n 1, 1) := by decide +kernel
theorem d_Co_hold_39 : decode b_Co_hold 39 = .ok (.bipush 33, 2) := by decide +kernel
theorem d_Co_hold_41 : decode b_Co_hold 41 = .ok (.if_icmp .ne 17, 3) := by decide +kernel
theorem d_Co_hold_44 : decode b_Co_hold 44 = .ok (.aload_n 0, 1) := by decide +kernel
theorem d_Co_hold_45 : decode b_Co_hold 45 = .ok (.getfield 23, 3) := by decide +kernel
theorem d_Co_hold_48 : decode b_Co_hold 48 = .ok (.getfield 68, 3) := by decide +kernel
theorem d_Co_hold_51 : decode b_Co_hold 51 = .ok (.iload_n 2, 1) := by decide +kernel
theorem d_Co_hold_52 : decode b_Co_hold 52 = .ok (.invokevirtual 152, 3) := by decide +kernel
theorem d_Co_hold_55 : decode b_Co_hold 55 = .ok (.goto 46, 3) := by decide +kernel
theorem d_Co_hold_58 : decode b_Co_hold 58 = .ok (.iload_n 1, 1) := by decide +kernel
theorem d_Co_hold_59 : decode b_Co_hold 59 = .ok (.bipush 66, 2) := by decide +kernel
theorem d_Co_hold_61 : decode b_Co_hold 61 = .ok (.if_icmp .ge 25, 3) := by decide +kernel
theorem d_Co_hold_64 : decode b_Co_hold 64 = .ok (.aload_n 0, 1) := by decide +kernel
theorem d_Co_hold_65 : decode b_Co_hold 65 = .ok (.getfield 23, 3) := by decide +kernel
theorem d_Co_hold_68 : decode b_Co_hold 68 = .ok (.getfield 137, 3) := by decide +kernel
theorem d_Co_hold_71 : decode b_Co_hold 71 = .ok (.getfield 141, 3) := by decide +kernel
theorem d_Co_hold_74 : decode b_Co_hold 74 = .ok (.iload_n 1, 1) := by decide +kernel
theorem d_Co_hold_75 : decode b_Co_hold 75 = .ok (.bipush 34, 2) := by decide +kernel
theorem d_Co_hold_77 : decode b_Co_hold 77 = .ok (.isub, 1) := by decide +kernel
theorem d_Co_hold_78 : decode b_Co_hold 78 = .ok (.bipush 31, 2) := by decide +kernel
theorem d_Co_hold_80 : decode b_Co_hold 80 = .ok (.iand, 1) := by decide +kernel
theorem d_Co_hold_81 : decode b_Co_hold 81 = .ok (.iload_n 2, 1) := by decide +kernel
theorem d_Co_hold_82 : decode b_Co_hold 82 = .ok (.iastore, 1) := by decide +kernel
theorem d_Co_hold_83 : decode b_Co_hold 83 = .ok (.goto 18, 3) := by decide +kernel
theorem d_Co_hold_86 : decode b_Co_hold 86 = .ok (.aload_n 0, 1) := by decide +kernel
theorem d_Co_hold_87 : decode b_Co_hold 87 = .ok (.getfield 23, 3) := by decide +kernel
theorem d_Co_hold_90 : decode b_Co_hold 90 = .ok (.getfield 137, 3) := by decide +kernel
theorem d_Co_hold_93 : decode b_Co_hold 93 = .ok (.iload_n 2, 1) := by decide +kernel
theorem d_Co_hold_94 : decode b_Co_hold 94 = .ok (.sipush 255, 3) := by decide +kernel
theorem d_Co_hold_97 : decode b_Co_hold 97 = .ok (.iand, 1) := by decide +kernel
theorem d_Co_hold_98 : decode b_Co_hold 98 = .ok (.putfield 144, 3) := by decide +kernel
theorem d_Co_hold_101 : decode b_Co_hold 101 = .ok (.return_, 1) := by decide +kernel
theorem d_Co_end_0 : decode b_Co_end 0 = .ok (.aload_n 0, 1) := by decide +kernel
theorem d_Co_end_1 : decode b_Co_end 1 = .ok (.getfield 23, 3) := by decide +kernel
theorem d_Co_end_4 : decode b_Co_end 4 = .ok (.getfield 88, 3) := by decide +kernel
theorem d_Co_end_7 : decode b_Co_end 7 = .ok (.ireturn, 1) := by decide +kernel
theorem d_Co_put_0 : decode b_Co_put 0 = .ok (.aload_n 0, 1) := by decide +kernel
theorem d_Co_put_1 : decode b_Co_put 1 = .ok (.getfield 12, 3) := by decide +kernel
theorem d_Co_put_4 : decode b_Co_put 4 = .ok (.iload_n 1, 1) := by decide +kernel
theorem d_Co_put_5 : decode b_Co_put 5 = .ok (.iconst 4, 1) := by decide +kernel
theorem d_Co_put_6 : decode b_Co_put 6 = .ok (.invokevirtual 27, 3) := by decide +kernel
theorem d_Co_put_9 : decode b_Co_put 9 = .ok (.ifCond .ne 13, 3) := by decide +kernel
theorem d_Co_put_12 : decode b_Co_put 12 = .ok (.new 31, 3) := by decide +kernel
theorem d_Co_put_15 : decode b_Co_put 15 = .ok (.dup, 1) := by decide +kernel
theorem d_Co_put_16 : decode b_Co_put 16 = .ok (.ldc 33, 2) := by decide +kernel
theorem d_Co_put_18 : decode b_Co_put 18 = .ok (.invokespecial 35, 3) := by decide +kernel
theorem d_Co_put_21 : decode b_Co_put 21 = .ok (.athrow, 1) := by decide +kernel
theorem d_Co_put_22 : decode b_Co_put 22 = .ok (.aload_n 0, 1) := by decide +kernel
theorem d_Co_put_23 : decode b_Co_put 23 = .ok (.getfield 12, 3) := by decide +kernel
theorem d_Co_put_26 : decode b_Co_put 26 = .ok (.iload_n 1, 1) := by decide +kernel
theorem d_Co_put_27 : decode b_Co_put 27 = .ok (.iconst 4, 1) := by decide +kernel
theorem d_Co_put_28 : decode b_Co_put 28 = .ok (.invokevirtual 38, 3) := by decide +kernel
theorem d_Co_put_31 : decode b_Co_put 31 = .ok (.istore_n 3, 1) := by decide +kernel
theorem d_Co_put_32 : decode b_Co_put 32 = .ok (.aload_n 0, 1) := by decide +kernel
theorem d_Co_put_33 : decode b_Co_put 33 = .ok (.getfield 12, 3) := by decide +kernel
theorem d_Co_put_36 : decode b_Co_put 36 = .ok (.iload_n 1, 1) := by decide +kernel
theorem d_Co_put_37 : decode b_Co_put 37 = .ok (.iconst 4, 1) := by decide +kernel
theorem d_Co_put_38 : decode b_Co_put 38 = .ok (.iload_n 2, 1) := by decide +kernel
theorem d_Co_put_39 : decode b_Co_put 39 = .ok (.invokevirtual 42, 3) := by decide +kernel
theorem d_Co_put_42 : decode b_Co_put 42 = .ok (.iload_n 3, 1) := by decide +kernel
theorem d_Co_put_43 : decode b_Co_put 43 = .ok (.ireturn, 1) := by decide +kernel
theorem d_Co_word_0 : decode b_Co_word 0 = .ok (.aload_n 0, 1) := by decide +kernel
theorem d_Co_word_1 : decode b_Co_word 1 = .ok (.getfield 12, 3) := by decide +kernel
theorem d_Co_word_4 : decode b_Co_word 4 = .ok (.iload_n 1, 1) := by decide +kernel
theorem d_Co_word_5 : decode b_Co_word 5 = .ok (.iconst 4, 1) := by decide +kernel
theorem d_Co_word_6 : decode b_Co_word 6 = .ok (.invokevirtual 27, 3) := by decide +kernel
theorem d_Co_word_9 : decode b_Co_word 9 = .ok (.ifCond .ne 13, 3) := by decide +kernel
theorem d_Co_word_12 : decode b_Co_word 12 = .ok (.new 31, 3) := by decide +kernel
theorem d_Co_word_15 : decode b_Co_word 15 = .ok (.dup, 1) := by decide +kernel
theorem d_Co_word_16 : decode b_Co_word 16 = .ok (.ldc 33, 2) := by decide +kernel
theorem d_Co_word_18 : decode b_Co_word 18 = .ok (.invokespecial 35, 3) := by decide +kernel
theorem d_Co_word_21 : decode b_Co_word 21 = .ok (.athrow, 1) := by decide +kernel
theorem d_Co_word_22 : decode b_Co_word 22 = .ok (.aload_n 0, 1) := by decide +kernel
theorem d_Co_word_23 : decode b_Co_word 23 = .ok (.getfield 12, 3) := by decide +kernel
theorem d_Co_word_26 : decode b_Co_word 26 = .ok (.iload_n 1, 1) := by decide +kernel
theorem d_Co_word_27 : decode b_Co_word 27 = .ok (.iconst 4, 1) := by decide +kernel
theorem d_Co_word_28 : decode b_Co_word 28 = .ok (.invokevirtual 38, 3) := by decide +kernel
theorem d_Co_word_31 : decode b_Co_word 31 = .ok (.ireturn, 1) := by decide +kernel
theorem d_Co_go_0 : decode b_Co_go 0 = .ok (.iload_n 1, 1) := by decide +kernel
theorem d_Co_go_1 : decode b_Co_go 1 = .ok (.iconst 3, 1) := by decide +kernel
theorem d_Co_go_2 : decode b_Co_go 2 = .ok (.iand, 1) := by decide +kernel
theorem d_Co_go_3 : decode b_Co_go 3 = .ok (.ifCond .eq 13, 3) := by decide +kernel
theorem d_Co_go_6 : decode b_Co_go 6 = .ok (.new 31, 3) := by decide +kernel
theorem d_Co_go_9 : decode b_Co_go 9 = .ok (.dup, 1) := by decide +kernel
theorem d_Co_go_10 : decode b_Co_go 10 = .ok (.ldc 46, 2) := by decide +kernel
theorem d_Co_go_12 : decode b_Co_go 12 = .ok (.invokespecial 35, 3) := by decide +kernel
theorem d_Co_go_15 : decode b_Co_go 15 = .ok (.athrow, 1) := by decide +kernel
theorem d_Co_go_16 : decode b_Co_go 16 = .ok (.aload_n 0, 1) := by decide +kernel
theorem d_Co_go_17 : decode b_Co_go 17 = .ok (.getfield 23, 3) := by decide +kernel
theorem d_Co_go_20 : decode b_Co_go 20 = .ok (.getfield 48, 3) := by decide +kernel
theorem d_Co_go_23 : decode b_Co_go 23 = .ok (.istore_n 2, 1) := by decide +kernel
theorem d_Co_go_24 : decode b_Co_go 24 = .ok (.aload_n 0, 1) := by decide +kernel
theorem d_Co_go_25 : decode b_Co_go 25 = .ok (.getfield 23, 3) := by decide +kernel
theorem d_Co_go_28 : decode b_Co_go 28 = .ok (.iload_n 1, 1) := by decide +kernel
theorem d_Co_go_29 : decode b_Co_go 29 = .ok (.invokevirtual 52, 3) := by decide +kernel
theorem d_Co_go_32 : decode b_Co_go 32 = .ok (.iload_n 2, 1) := by decide +kernel
theorem d_Co_go_33 : decode b_Co_go 33 = .ok (.ireturn, 1) := by decide +kernel
theorem d_Co_set_0 : decode b_Co_set 0 = .ok (.iload_n 1, 1) := by decide +kernel
theorem d_Co_set_1 : decode b_Co_set 1 = .ok (.ifCond .lt 9, 3) := by decide +kernel
theorem d_Co_set_4 : decode b_Co_set 4 = .ok (.iload_n 1, 1) := by decide +kernel
theorem d_Co_set_5 : decode b_Co_set 5 = .ok (.bipush 66, 2) := by decide +kernel
theorem d_Co_set_7 : decode b_Co_set 7 = .ok (.if_icmp .le 13, 3) := by decide +kernel
theorem d_Co_set_10 : decode b_Co_set 10 = .ok (.new 55, 3) := by decide +kernel
theorem d_Co_set_13 : decode b_Co_set 13 = .ok (.dup, 1) := by decide +kernel
theorem d_Co_set_14 : decode b_Co_set 14 = .ok (.ldc 57, 2) := by decide +kernel
theorem d_Co_set_16 : decode b_Co_set 16 = .ok (.invokespecial 59, 3) := by decide +kernel
theorem d_Co_set_19 : decode b_Co_set 19 = .ok (.athrow, 1) := by decide +kernel
theorem d_Co_set_20 : decode b_Co_set 20 = .ok (.aload_n 0, 1) := by decide +kernel
theorem d_Co_set_21 : decode b_Co_set 21 = .ok (.iload_n 1, 1) := by decide +kernel
theorem d_Co_set_22 : decode b_Co_set 22 = .ok (.invokevirtual 60, 3) := by decide +kernel
theorem d_Co_set_25 : decode b_Co_set 25 = .ok (.istore_n 3, 1) := by decide +kernel
theorem d_Co_set_26 : decode b_Co_set 26 = .ok (.aload_n 0, 1) := by decide +kernel
theorem d_Co_set_27 : decode b_Co_set 27 = .ok (.iload_n 1, 1) := by decide +kernel
theorem d_Co_set_28 : decode b_Co_set 28 = .ok (.iload_n 2, 1) := by decide +kernel
theorem d_Co_set_29 : decode b_Co_set 29 = .ok (.invokevirtual 64, 3) := by decide +kernel
theorem d_Co_set_32 : decode b_Co_set 32 = .ok (.iload_n 3, 1) := by decide +kernel
theorem d_Co_set_33 : decode b_Co_set 33 = .ok (.ireturn, 1) := by decide +kernel
theorem d_Co_get_0 : decode b_Co_get 0 = .ok (.iload_n 1, 1) := by decide +kernel
theorem d_Co_get_1 : decode b_Co_get 1 = .ok (.ifCond .lt 9, 3) := by decide +kernel
theorem d_Co_get_4 : decode b_Co_get 4 = .ok (.iload_n 1, 1) := by decide +kernel
theorem d_Co_get_5 : decode b_Co_get 5 = .ok (.bipush 66, 2) := by decide +kernel
theorem d_Co_get_7 : decode b_Co_get 7 = .ok (.if_icmp .le 13, 3) := by decide +kernel
theorem d_Co_get_10 : decode b_Co_get 10 = .ok (.new 55, 3) := by decide +kernel
theorem d_Co_get_13 : decode b_Co_get 13 = .ok (.dup, 1) := by decide +kernel
theorem d_Co_get_14 : decode b_Co_get 14 = .ok (.ldc 57, 2) := by decide +kernel
theorem d_Co_get_16 : decode b_Co_get 16 = .ok (.invokespecial 59, 3) := by decide +kernel
theorem d_Co_get_19 : decode b_Co_get 19 = .ok (.athrow, 1) := by decide +kernel
theorem d_Co_get_20 : decode b_Co_get 20 = .ok (.iload_n 1, 1) := by decide +kernel
theorem d_Co_get_21 : decode b_Co_get 21 = .ok (.bipush 32, 2) := by decide +kernel
theorem d_Co_get_23 : decode b_Co_get 23 = .ok (.if_icmp .ne 16, 3) := by decide +kernel
theorem d_Co_get_26 : decode b_Co_get 26 = .ok (.aload_n 0, 1) := by decide +kernel
theorem d_Co_get_27 : decode b_Co_get 27 = .ok (.getfield 23, 3) := by decide +kernel
theorem d_Co_get_30 : decode b_Co_get 30 = .ok (.getfield 68, 3) := by decide +kernel
theorem d_Co_get_33 : decode b_Co_get 33 = .ok (.getfield 72, 3) := by decide +kernel
theorem d_Co_get_36 : decode b_Co_get 36 = .ok (.ifCond .eq 22, 3) := by decide +kernel
theorem d_Co_get_39 : decode b_Co_get 39 = .ok (.iload_n 1, 1) := by decide +kernel
theorem d_Co_get_40 : decode b_Co_get 40 = .ok (.bipush 33, 2) := by decide +kernel
theorem d_Co_get_42 : decode b_Co_get 42 = .ok (.if_icmp .ne 26, 3) := by decide +kernel
theorem d_Co_get_45 : decode b_Co_get 45 = .ok (.aload_n 0, 1) := by decide +kernel
theorem d_Co_get_46 : decode b_Co_get 46 = .ok (.getfield 23, 3) := by decide +kernel
theorem d_Co_get_49 : decode b_Co_get 49 = .ok (.getfield 68, 3) := by decide +kernel
theorem d_Co_get_52 : decode b_Co_get 52 = .ok (.getfield 78, 3) := by decide +kernel
theorem d_Co_get_55 : decode b_Co_get 55 = .ok (.ifCond .ne 13, 3) := by decide +kernel
theorem d_Co_get_58 : decode b_Co_get 58 = .ok (.new 81, 3) := by decide +kernel
theorem d_Co_get_61 : decode b_Co_get 61 = .ok (.dup, 1) := by decide +kernel
theorem d_Co_get_62 : decode b_Co_get 62 = .ok (.ldc 83, 2) := by decide +kernel
theorem d_Co_get_64 : decode b_Co_get 64 = .ok (.invokespecial 85, 3) := by decide +kernel
theorem d_Co_get_67 : decode b_Co_get 67 = .ok (.athrow, 1) := by decide +kernel
theorem d_Co_get_68 : decode b_Co_get 68 = .ok (.aload_n 0, 1) := by decide +kernel
theorem d_Co_get_69 : decode b_Co_get 69 = .ok (.iload_n 1, 1) := by decide +kernel
theorem d_Co_get_70 : decode b_Co_get 70 = .ok (.invokevirtual 60, 3) := by decide +kernel
theorem d_Co_get_73 : decode b_Co_get 73 = .ok (.ireturn, 1) := by decide +kernel
theorem d_Co_pass_0 : decode b_Co_pass 0 = .ok (.aload_n 0, 1) := by decide +kernel
theorem d_Co_pass_1 : decode b_Co_pass 1 = .ok (.getfield 23, 3) := by decide +kernel
theorem d_Co_pass_4 : decode b_Co_pass 4 = .ok (.getfield 88, 3) := by decide +kernel
theorem d_Co_pass_7 : decode b_Co_pass 7 = .ok (.bipush 6, 2) := by decide +kernel
theorem d_Co_pass_9 : decode b_Co_pass 9 = .ok (.if_icmp .eq 25, 3) := by decide +kernel
theorem d_Co_pass_12 : decode b_Co_pass 12 = .ok (.aload_n 0, 1) := by decide +kernel
theorem d_Co_pass_13 : decode b_Co_pass 13 = .ok (.getfield 23, 3) := by decide +kernel
theorem d_Co_pass_16 : decode b_Co_pass 16 = .ok (.getfield 88, 3) := by decide +kernel
theorem d_Co_pass_19 : decode b_Co_pass 19 = .ok (.bipush 7, 2) := by decide +kernel
theorem d_Co_pass_21 : decode b_Co_pass 21 = .ok (.if_icmp .eq 13, 3) := by decide +kernel
theorem d_Co_pass_24 : decode b_Co_pass 24 = .ok (.new 81, 3) := by decide +kernel
theorem d_Co_pass_27 : decode b_Co_pass 27 = .ok (.dup, 1) := by decide +kernel
theorem d_Co_pass_28 : decode b_Co_pass 28 = .ok (.ldc 96, 2) := by decide +kernel
theorem d_Co_pass_30 : decode b_Co_pass 30 = .ok (.invokespecial 85, 3) := by decide +kernel
theorem d_Co_pass_33 : decode b_Co_pass 33 = .ok (.athrow, 1) := by decide +kernel
theorem d_Co_pass_34 : decode b_Co_pass 34 = .ok (.aload_n 0, 1) := by decide +kernel
theorem d_Co_pass_35 : decode b_Co_pass 35 = .ok (.getfield 23, 3) := by decide +kernel
theorem d_Co_pass_38 : decode b_Co_pass 38 = .ok (.invokevirtual 98, 3) := by decide +kernel
theorem d_Co_pass_41 : decode b_Co_pass 41 = .ok (.aload_n 0, 1) := by decide +kernel
theorem d_Co_pass_42 : decode b_Co_pass 42 = .ok (.getfield 23, 3) := by decide +kernel
theorem d_Co_pass_45 : decode b_Co_pass 45 = .ok (.getfield 101, 3) := by decide +kernel
theorem d_Co_pass_48 : decode b_Co_pass 48 = .ok (.ireturn, 1) := by decide +kernel
theorem d_Co_state_0 : decode b_Co_state 0 = .ok (.iload_n 1, 1) := by decide +kernel
theorem d_Co_state_1 : decode b_Co_state 1 = .ok (.tableswitch 119 0 7 #[47, 55, 63, 79, 87, 95, 103, 111], 47) := by decide +kernel
theorem d_Co_state_48 : decode b_Co_state 48 = .ok (.aload_n 0, 1) := by decide +kernel
theorem d_Co_state_49 : decode b_Co_state 49 = .ok (.getfield 23, 3) := by decide +kernel
theorem d_Co_state_52 : decode b_Co_state 52 = .ok (.getfield 48, 3) := by decide +kernel
theorem d_Co_state_55 : decode b_Co_state 55 = .ok (.ireturn, 1) := by decide +kernel
theorem d_Co_state_56 : decode b_Co_state 56 = .ok (.aload_n 0, 1) := by decide +kernel
theorem d_Co_state_57 : decode b_Co_state 57 = .ok (.getfield 23, 3) := by decide +kernel
theorem d_Co_state_60 : decode b_Co_state 60 = .ok (.getfield 104, 3) := by decide +kernel
theorem d_Co_state_63 : decode b_Co_state 63 = .ok (.ireturn, 1) := by decide +kernel
theorem d_Co_state_64 : decode b_Co_state 64 = .ok (.aload_n 0, 1) := by decide +kernel
theorem d_Co_state_65 : decode b_Co_state 65 = .ok (.getfield 23, 3) := by decide +kernel
theorem d_Co_state_68 : decode b_Co_state 68 = .ok (.getfield 107, 3) := by decide +kernel
theorem d_Co_state_71 : decode b_Co_state 71 = .ok (.ifCond .eq 7, 3) := by decide +kernel
theorem d_Co_state_74 : decode b_Co_state 74 = .ok (.iconst 1, 1) := by decide +kernel
theorem d_Co_state_75 : decode b_Co_state 75 = .ok (.goto 4, 3) := by decide +kernel
theorem d_Co_state_78 : decode b_Co_state 78 = .ok (.iconst 0, 1) := by decide +kernel
theorem d_Co_state_79 : decode b_Co_state 79 = .ok (.ireturn, 1) := by decide +kernel
theorem d_Co_state_80 : decode b_Co_state 80 = .ok (.aload_n 0, 1) := by decide +kernel
theorem d_Co_state_81 : decode b_Co_state 81 = .ok (.getfield 23, 3) := by decide +kernel
theorem d_Co_state_84 : decode b_Co_state 84 = .ok (.getfield 110, 3) := by decide +kernel
theorem d_Co_state_87 : decode b_Co_state 87 = .ok (.ireturn, 1) := by decide +kernel
theorem d_Co_state_88 : decode b_Co_state 88 = .ok (.aload_n 0, 1) := by decide +kernel
theorem d_Co_state_89 : decode b_Co_state 89 = .ok (.getfield 23, 3) := by decide +kernel
theorem d_Co_state_92 : decode b_Co_state 92 = .ok (.getfield 113, 3) := by decide +kernel
theorem d_Co_state_95 : decode b_Co_state 95 = .ok (.ireturn, 1) := by decide +kernel
theorem d_Co_state_96 : decode b_Co_state 96 = .ok (.aload_n 0, 1) := by decide +kernel
theorem d_Co_state_97 : decode b_Co_state 97 = .ok (.getfield 23, 3) := by decide +kernel
theorem d_Co_state_100 : decode b_Co_state 100 = .ok (.getfield 116, 3) := by decide +kernel
theorem d_Co_state_103 : decode b_Co_state 103 = .ok (.ireturn, 1) := by decide +kernel
theorem d_Co_state_104 : decode b_Co_state 104 = .ok (.aload_n 0, 1) := by decide +kernel
theorem d_Co_state_105 : decode b_Co_state 105 = .ok (.getfield 23, 3) := by decide +kernel
theorem d_Co_state_108 : decode b_Co_state 108 = .ok (.getfield 119, 3) := by decide +kernel
theorem d_Co_state_111 : decode b_Co_state 111 = .ok (.ireturn, 1) := by decide +kernel
theorem d_Co_state_112 : decode b_Co_state 112 = .ok (.aload_n 0, 1) := by decide +kernel
theorem d_Co_state_113 : decode b_Co_state 113 = .ok (.getfield 23, 3) := by decide +kernel
theorem d_Co_state_116 : decode b_Co_state 116 = .ok (.getfield 122, 3) := by decide +kernel
theorem d_Co_state_119 : decode b_Co_state 119 = .ok (.ireturn, 1) := by decide +kernel
theorem d_Co_state_120 : decode b_Co_state 120 = .ok (.new 55, 3) := by decide +kernel
theorem d_Co_state_123 : decode b_Co_state 123 = .ok (.dup, 1) := by decide +kernel
theorem d_Co_state_124 : decode b_Co_state 124 = .ok (.ldc 125, 2) := by decide +kernel
theorem d_Co_state_126 : decode b_Co_state 126 = .ok (.invokespecial 59, 3) := by decide +kernel
theorem d_Co_state_129 : decode b_Co_state 129 = .ok (.athrow, 1) := by decide +kernel
theorem d_Co_run_0 : decode b_Co_run 0 = .ok (.iload_n 1, 1) := by decide +kernel
theorem d_Co_run_1 : decode b_Co_run 1 = .ok (.iconst 1, 1) := by decide +kernel
theorem d_Co_run_2 : decode b_Co_run 2 = .ok (.if_icmp .lt 10, 3) := by decide +kernel
theorem d_Co_run_5 : decode b_Co_run 5 = .ok (.iload_n 1, 1) := by decide +kernel
theorem d_Co_run_6 : decode b_Co_run 6 = .ok (.sipush 10000, 3) := by decide +kernel
theorem d_Co_run_9 : decode b_Co_run 9 = .ok (.if_icmp .le 13, 3) := by decide +kernel
theorem d_Co_run_12 : decode b_Co_run 12 = .ok (.new 31, 3) := by decide +kernel
theorem d_Co_run_15 : decode b_Co_run 15 = .ok (.dup, 1) := by decide +kernel
theorem d_Co_run_16 : decode b_Co_run 16 = .ok (.ldc 86, 2) := by decide +kernel
theorem d_Co_run_18 : decode b_Co_run 18 = .ok (.invokespecial 35, 3) := by decide +kernel
theorem d_Co_run_21 : decode b_Co_run 21 = .ok (.athrow, 1) := by decide +kernel
theorem d_Co_run_22 : decode b_Co_run 22 = .ok (.aload_n 0, 1) := by decide +kernel
theorem d_Co_run_23 : decode b_Co_run 23 = .ok (.getfield 23, 3) := by decide +kernel
theorem d_Co_run_26 : decode b_Co_run 26 = .ok (.getfield 88, 3) := by decide +kernel
theorem d_Co_run_29 : decode b_Co_run 29 = .ok (.ifCond .eq 13, 3) := by decide +kernel
theorem d_Co_run_32 : decode b_Co_run 32 = .ok (.new 81, 3) := by decide +kernel
theorem d_Co_run_35 : decode b_Co_run 35 = .ok (.dup, 1) := by decide +kernel
theorem d_Co_run_36 : decode b_Co_run 36 = .ok (.ldc 91, 2) := by decide +kernel
theorem d_Co_run_38 : decode b_Co_run 38 = .ok (.invokespecial 85, 3) := by decide +kernel
theorem d_Co_run_41 : decode b_Co_run 41 = .ok (.athrow, 1) := by decide +kernel
theorem d_Co_run_42 : decode b_Co_run 42 = .ok (.iconst 0, 1) := by decide +kernel
theorem d_Co_run_43 : decode b_Co_run 43 = .ok (.istore_n 2, 1) := by decide +kernel
theorem d_Co_run_44 : decode b_Co_run 44 = .ok (.iload_n 2, 1) := by decide +kernel
theorem d_Co_run_45 : decode b_Co_run 45 = .ok (.iload_n 1, 1) := by decide +kernel
theorem d_Co_run_46 : decode b_Co_run 46 = .ok (.if_icmp .ge 28, 3) := by decide +kernel
theorem d_Co_run_49 : decode b_Co_run 49 = .ok (.aload_n 0, 1) := by decide +kernel
theorem d_Co_run_50 : decode b_Co_run 50 = .ok (.getfield 23, 3) := by decide +kernel
theorem d_Co_run_53 : decode b_Co_run 53 = .ok (.invokevirtual 93, 3) := by decide +kernel
theorem d_Co_run_56 : decode b_Co_run 56 = .ok (.aload_n 0, 1) := by decide +kernel
theorem d_Co_run_57 : decode b_Co_run 57 = .ok (.getfield 23, 3) := by decide +kernel
theorem d_Co_run_60 : decode b_Co_run 60 = .ok (.getfield 88, 3) := by decide +kernel
theorem d_Co_run_63 : decode b_Co_run 63 = .ok (.ifCond .eq 5, 3) := by decide +kernel
theorem d_Co_run_66 : decode b_Co_run 66 = .ok (.iload_n 2, 1) := by decide +kernel
theorem d_Co_run_67 : decode b_Co_run 67 = .ok (.ireturn, 1) := by decide +kernel
theorem d_Co_run_68 : decode b_Co_run 68 = .ok (.iinc 2 1, 3) := by decide +kernel
theorem d_Co_run_71 : decode b_Co_run 71 = .ok (.goto (-27), 3) := by decide +kernel
theorem d_Co_run_74 : decode b_Co_run 74 = .ok (.iload_n 1, 1) := by decide +kernel
theorem d_Co_run_75 : decode b_Co_run 75 = .ok (.ireturn, 1) := by decide +kernel
