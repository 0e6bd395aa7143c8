abbrev b_Co_end : ByteArray := prog_1_method_8_code
def y_Co_end : MethodName := ⟨R_Co, "end", "()I"⟩
abbrev b_Co_put : ByteArray := prog_1_method_2_code
def y_Co_put : MethodName := ⟨R_Co, "put", "(II)I"⟩
abbrev b_Co_word : ByteArray := prog_1_method_3_code
def y_Co_word : MethodName := ⟨R_Co, "word", "(I)I"⟩
abbrev b_Co_go : ByteArray := prog_1_method_4_code
def y_Co_go : MethodName := ⟨R_Co, "go", "(I)I"⟩
abbrev b_Co_set : ByteArray := prog_1_method_5_code
def y_Co_set : MethodName := ⟨R_Co, "set", "(II)I"⟩
abbrev b_Co_get : ByteArray := prog_1_method_6_code
def y_Co_get : MethodName := ⟨R_Co, "get", "(I)I"⟩
abbrev b_Co_pass : ByteArray := prog_1_method_9_code
def y_Co_pass : MethodName := ⟨R_Co, "pass", "()I"⟩
abbrev b_Co_state : ByteArray := prog_1_method_10_code
def y_Co_state : MethodName := ⟨R_Co, "state", "(I)I"⟩
abbrev b_Co_run : ByteArray := prog_1_method_7_code
def y_Co_run : MethodName := ⟨R_Co, "run", "(I)I"⟩
theorem d_Co_end_0 : decode b_Co_end 0 = .ok (.aload_n 0, 1) := by decide +kernel
theorem d_Co_end_1 : decode b_Co_end 1 = .ok (.getfield 23, 3) := by decide +kernel
theorem d_Co_end_4 : decode b_Co_end 4 = .ok (.getfield 88, 3) := by decide +kernel
theorem d_Co_end_7 : decode b_Co_end 7 = .ok (.ireturn, 1) := by decide +kernel
theorem d_Co_put_0 : decode b_Co_put 0 = .ok (.aload_n 0, 1) := by decide +kernel
theorem d_Co_put_1 : decode b_Co_put 1 = .ok (.getfield 12, 3) := by decide +kernel
theorem d_Co_put_4 : decode b_Co_put 4 = .ok (.iload_n 1, 1) := by decide +kernel
theorem d_Co_put_5 : decode b_Co_put 5 = .ok (.iconst 4, 1) := by decide +kernel
theorem d_Co_put_6 : decode b_Co_put 6 = .ok (.invokevirtual 27, 3) := by decide +kernel
theorem d_Co_put_9 : decode b_Co_put 9 = .ok (.ifCond .ne 13, 3) := by decide +kernel
theorem d_Co_put_12 : decode b_Co_put 12 = .ok (.new 31, 3) := by decide +kernel
theorem d_Co_put_15 : decode b_Co_put 15 = .ok (.dup, 1) := by decide +kernel
theorem d_Co_put_16 : decode b_Co_put 16 = .ok (.ldc 33, 2) := by decide +kernel
theorem d_Co_put_18 : decode b_Co_put 18 = .ok (.invokespecial 35, 3) := by decide +kernel
theorem d_Co_put_21 : decode b_Co_put 21 = .ok (.athrow, 1) := by decide +kernel
theorem d_Co_put_22 : decode b_Co_put 22 = .ok (.aload_n 0, 1) := by decide +kernel
theorem d_Co_put_23 : decode b_Co_put 23 = .ok (.getfield 12, 3) := by decide +kernel
theorem d_Co_put_26 : decode b_Co_put 26 = .ok (.iload_n 1, 1) := by decide +kernel
theorem d_Co_put_27 : decode b_Co_put 27 = .ok (.iconst 4, 1) := by decide +kernel
theorem d_Co_put_28 : decode b_Co_put 28 = .ok (.invokevirtual 38, 3) := by decide +kernel
theorem d_Co_put_31 : decode b_Co_put 31 = .ok (.istore_n 3, 1) := by decide +kernel
theorem d_Co_put_32 : decode b_Co_put 32 = .ok (.aload_n 0, 1) := by decide +kernel
theorem d_Co_put_33 : decode b_Co_put 33 = .ok (.getfield 12, 3) := by decide +kernel
theorem d_Co_put_36 : decode b_Co_put 36 = .ok (.iload_n 1, 1) := by decide +kernel
theorem d_Co_put_37 : decode b_Co_put 37 = .ok (.iconst 4, 1) := by decide +kernel
theorem d_Co_put_38 : decode b_Co_put 38 = .ok (.iload_n 2, 1) := by decide +kernel
theorem d_Co_put_39 : decode b_Co_put 39 = .ok (.invokevirtual 42, 3) := by decide +kernel
theorem d_Co_put_42 : decode b_Co_put 42 = .ok (.iload_n 3, 1) := by decide +kernel
theorem d_Co_put_43 : decode b_Co_put 43 = .ok (.ireturn, 1) := by decide +kernel
theorem d_Co_word_0 : decode b_Co_word 0 = .ok (.aload_n 0, 1) := by decide +kernel
theorem d_Co_word_1 : decode b_Co_word 1 = .ok (.getfield 12, 3) := by decide +kernel
theorem d_Co_word_4 : decode b_Co_word 4 = .ok (.iload_n 1, 1) := by decide +kernel
theorem d_Co_word_5 : decode b_Co_word 5 = .ok (.iconst 4, 1) := by decide +kernel
theorem d_Co_word_6 : decode b_Co_word 6 = .ok (.invokevirtual 27, 3) := by decide +kernel
theorem d_Co_word_9 : decode b_Co_word 9 = .ok (.ifCond .ne 13, 3) := by decide +kernel
theorem d_Co_word_12 : decode b_Co_word 12 = .ok (.new 31, 3) := by decide +kernel
theorem d_Co_word_15 : decode b_Co_word 15 = .ok (.dup, 1) := by decide +kernel
theorem d_Co_word_16 : decode b_Co_word 16 = .ok (.ldc 33, 2) := by decide +kernel
theorem d_Co_word_18 : decode b_Co_word 18 = .ok (.invokespecial 35, 3) := by decide +kernel
theorem d_Co_word_21 : decode b_Co_word 21 = .ok (.athrow, 1) := by decide +kernel
theorem d_Co_word_22 : decode b_Co_word 22 = .ok (.aload_n 0, 1) := by decide +kernel
theorem d_Co_word_23 : decode b_Co_word 23 = .ok (.getfield 12, 3) := by decide +kernel
theorem d_Co_word_26 : decode b_Co_word 26 = .ok (.iload_n 1, 1) := by decide +kernel
theorem d_Co_word_27 : decode b_Co_word 27 = .ok (.iconst 4, 1) := by decide +kernel
theorem d_Co_word_28 : decode b_Co_word 28 = .ok (.invokevirtual 38, 3) := by decide +kernel
theorem d_Co_word_31 : decode b_Co_word 31 = .ok (.ireturn, 1) := by decide +kernel
theorem d_Co_go_0 : decode b_Co_go 0 = .ok (.iload_n 1, 1) := by decide +kernel
theorem d_Co_go_1 : decode b_Co_go 1 = .ok (.iconst 3, 1) := by decide +kernel
theorem d_Co_go_2 : decode b_Co_go 2 = .ok (.iand, 1) := by decide +kernel
theorem d_Co_go_3 : decode b_Co_go 3 = .ok (.ifCond .eq 13, 3) := by decide +kernel
theorem d_Co_go_6 : decode b_Co_go 6 = .ok (.new 31, 3) := by decide +kernel
theorem d_Co_go_9 : decode b_Co_go 9 = .ok (.dup, 1) := by decide +kernel
theorem d_Co_go_10 : decode b_Co_go 10 = .ok (.ldc 46, 2) := by decide +kernel
theorem d_Co_go_12 : decode b_Co_go 12 = .ok (.invokespecial 35, 3) := by decide +kernel
theorem d_Co_go_15 : decode b_Co_go 15 = .ok (.athrow, 1) := by decide +kernel
theorem d_Co_go_16 : decode b_Co_go 16 = .ok (.aload_n 0, 1) := by decide +kernel
theorem d_Co_go_17 : decode b_Co_go 17 = .ok (.getfield 23, 3) := by decide +kernel
theorem d_Co_go_20 : decode b_Co_go 20 = .ok (.getfield 48, 3) := by decide +kernel
theorem d_Co_go_23 : decode b_Co_go 23 = .ok (.istore_n 2, 1) := by decide +kernel
theorem d_Co_go_24 : decode b_Co_go 24 = .ok (.aload_n 0, 1) := by decide +kernel
theorem d_Co_go_25 : decode b_Co_go 25 = .ok (.getfield 23, 3) := by decide +kernel
theorem d_Co_go_28 : decode b_Co_go 28 = .ok (.iload_n 1, 1) := by decide +kernel
theorem d_Co_go_29 : decode b_Co_go 29 = .ok (.invokevirtual 52, 3) := by decide +kernel
theorem d_Co_go_32 : decode b_Co_go 32 = .ok (.iload_n 2, 1) := by decide +kernel
theorem d_Co_go_33 : decode b_Co_go 33 = .ok (.ireturn, 1) := by decide +kernel
theorem d_Co_set_0 : decode b_Co_set 0 = .ok (.iload_n 1, 1) := by decide +kernel
theorem d_Co_set_1 : decode b_Co_set 1 = .ok (.ifCond .lt 9, 3) := by decide +kernel
theorem d_Co_set_4 : decode b_Co_set 4 = .ok (.iload_n 1, 1) := by decide +kernel
theorem d_Co_set_5 : decode b_Co_set 5 = .ok (.bipush 66, 2) := by decide +kernel
theorem d_Co_set_7 : decode b_Co_set 7 = .ok (.if_icmp .le 13, 3) := by decide +kernel
theorem d_Co_set_10 : decode b_Co_set 10 = .ok (.new 55, 3) := by decide +kernel
theorem d_Co_set_13 : decode b_Co_set 13 = .ok (.dup, 1) := by decide +kernel
theorem d_Co_set_14 : decode b_Co_set 14 = .ok (.ldc 57, 2) := by decide +kernel
theorem d_Co_set_16 : decode b_Co_set 16 = .ok (.invokespecial 59, 3) := by decide +kernel
theorem d_Co_set_19 : decode b_Co_set 19 = .ok (.athrow, 1) := by decide +kernel
theorem d_Co_set_20 : decode b_Co_set 20 = .ok (.aload_n 0, 1) := by decide +kernel
theorem d_Co_set_21 : decode b_Co_set 21 = .ok (.iload_n 1, 1) := by decide +kernel
theorem d_Co_set_22 : decode b_Co_set 22 = .ok (.invokevirtual 60, 3) := by decide +kernel
theorem d_Co_set_25 : decode b_Co_set 25 = .ok (.istore_n 3, 1) := by decide +kernel
theorem d_Co_set_26 : decode b_Co_set 26 = .ok (.aload_n 0, 1) := by decide +kernel
theorem d_Co_set_27 : decode b_Co_set 27 = .ok (.iload_n 1, 1) := by decide +kernel
theorem d_Co_set_28 : decode b_Co_set 28 = .ok (.iload_n 2, 1) := by decide +kernel
theorem d_Co_set_29 : decode b_Co_set 29 = .ok (.invokevirtual 64, 3) := by decide +kernel
theorem d_Co_set_32 : decode b_Co_set 32 = .ok (.iload_n 3, 1) := by decide +kernel
theorem d_Co_set_33 : decode b_Co_set 33 = .ok (.ireturn, 1) := by decide +kernel
theorem d_Co_get_0 : decode b_Co_get 0 = .ok (.iload_n 1, 1) := by decide +kernel
theorem d_Co_get_1 : decode b_Co_get 1 = .ok (.ifCond .lt 9, 3) := by decide +kernel
theorem d_Co_get_4 : decode b_Co_get 4 = .ok (.iload_n 1, 1) := by decide +kernel
theorem d_Co_get_5 : decode b_Co_get 5 = .ok (.bipush 66, 2) := by decide +kernel
theorem d_Co_get_7 : decode b_Co_get 7 = .ok (.if_icmp .le 13, 3) := by decide +kernel
theorem d_Co_get_10 : decode b_Co_get 10 = .ok (.new 55, 3) := by decide +kernel
theorem d_Co_get_13 : decode b_Co_get 13 = .ok (.dup, 1) := by decide +kernel
theorem d_Co_get_14 : decode b_Co_get 14 = .ok (.ldc 57, 2) := by decide +kernel
theorem d_Co_get_16 : decode b_Co_get 16 = .ok (.invokespecial 59, 3) := by decide +kernel
theorem d_Co_get_19 : decode b_Co_get 19 = .ok (.athrow, 1) := by decide +kernel
theorem d_Co_get_20 : decode b_Co_get 20 = .ok (.iload_n 1, 1) := by decide +kernel
theorem d_Co_get_21 : decode b_Co_get 21 = .ok (.bipush 32, 2) := by decide +kernel
theorem d_Co_get_23 : decode b_Co_get 23 = .ok (.if_icmp .ne 16, 3) := by decide +kernel
theorem d_Co_get_26 : decode b_Co_get 26 = .ok (.aload_n 0, 1) := by decide +kernel
theorem d_Co_get_27 : decode b_Co_get 27 = .ok (.getfield 23, 3) := by decide +kernel
theorem d_Co_get_30 : decode b_Co_get 30 = .ok (.getfield 68, 3) := by decide +kernel
theorem d_Co_get_33 : decode b_Co_get 33 = .ok (.getfield 72, 3) := by decide +kernel
theorem d_Co_get_36 : decode b_Co_get 36 = .ok (.ifCond .eq 22, 3) := by decide +kernel
theorem d_Co_get_39 : decode b_Co_get 39 = .ok (.iload_n 1, 1) := by decide +kernel
theorem d_Co_get_40 : decode b_Co_get 40 = .ok (.bipush 33, 2) := by decide +kernel
theorem d_Co_get_42 : decode b_Co_get 42 = .ok (.if_icmp .ne 26, 3) := by decide +kernel
theorem d_Co_get_45 : decode b_Co_get 45 = .ok (.aload_n 0, 1) := by decide +kernel
theorem d_Co_get_46 : decode b_Co_get 46 = .ok (.getfield 23, 3) := by decide +kernel
theorem d_Co_get_49 : decode b_Co_get 49 = .ok (.getfield 68, 3) := by decide +kernel
theorem d_Co_get_52 : decode b_Co_get 52 = .ok (.getfield 78, 3) := by decide +kernel
theorem d_Co_get_55 : decode b_Co_get 55 = .ok (.ifCond .ne 13, 3) := by decide +kernel
theorem d_Co_get_58 : decode b_Co_get 58 = .ok (.new 81, 3) := by decide +kernel
theorem d_Co_get_61 : decode b_Co_get 61 = .ok (.dup, 1) := by decide +kernel
theorem d_Co_get_62 : decode b_Co_get 62 = .ok (.ldc 83, 2) := by decide +kernel
theorem d_Co_get_64 : decode b_Co_get 64 = .ok (.invokespecial 85, 3) := by decide +kernel
theorem d_Co_get_67 : decode b_Co_get 67 = .ok (.athrow, 1) := by decide +kernel
theorem d_Co_get_68 : decode b_Co_get 68 = .ok (.aload_n 0, 1) := by decide +kernel
theorem d_Co_get_69 : decode b_Co_get 69 = .ok (.iload_n 1, 1) := by decide +kernel
theorem d_Co_get_70 : decode b_Co_get 70 = .ok (.invokevirtual 60, 3) := by decide +kernel
theorem d_Co_get_73 : decode b_Co_get 73 = .ok (.ireturn, 1) := by decide +kernel
theorem d_Co_pass_0 : decode b_Co_pass 0 = .ok (.aload_n 0, 1) := by decide +kernel
theorem d_Co_pass_1 : decode b_Co_pass 1 = .ok (.getfield 23, 3) := by decide +kernel
theorem d_Co_pass_4 : decode b_Co_pass 4 = .ok (.getfield 88, 3) := by decide +kernel
theorem d_Co_pass_7 : decode b_Co_pass 7 = .ok (.bipush 6, 2) := by decide +kernel
theorem d_Co_pass_9 : decode b_Co_pass 9 = .ok (.if_icmp .eq 25, 3) := by decide +kernel
theorem d_Co_pass_12 : decode b_Co_pass 12 = .ok (.aload_n 0, 1) := by decide +kernel
theorem d_Co_pass_13 : decode b_Co_pass 13 = .ok (.getfield 23, 3) := by decide +kernel
theorem d_Co_pass_16 : decode b_Co_pass 16 = .ok (.getfield 88, 3) := by decide +kernel
theorem d_Co_pass_19 : decode b_Co_pass 19 = .ok (.bipush 7, 2) := by decide +kernel
theorem d_Co_pass_21 : decode b_Co_pass 21 = .ok (.if_icmp .eq 13, 3) := by decide +kernel
theorem d_Co_pass_24 : decode b_Co_pass 24 = .ok (.new 81, 3) := by decide +kernel
theorem d_Co_pass_27 : decode b_Co_pass 27 = .ok (.dup, 1) := by decide +kernel
theorem d_Co_pass_28 : decode b_Co_pass 28 = .ok (.ldc 96, 2) := by decide +kernel
theorem d_Co_pass_30 : decode b_Co_pass 30 = .ok (.invokespecial 85, 3) := by decide +kernel
theorem d_Co_pass_33 : decode b_Co_pass 33 = .ok (.athrow, 1) := by decide +kernel
theorem d_Co_pass_34 : decode b_Co_pass 34 = .ok (.aload_n 0, 1) := by decide +kernel
theorem d_Co_pass_35 : decode b_Co_pass 35 = .ok (.getfield 23, 3) := by decide +kernel
theorem d_Co_pass_38 : decode b_Co_pass 38 = .ok (.invokevirtual 98, 3) := by decide +kernel
theorem d_Co_pass_41 : decode b_Co_pass 41 = .ok (.aload_n 0, 1) := by decide +kernel
theorem d_Co_pass_42 : decode b_Co_pass 42 = .ok (.getfield 23, 3) := by decide +kernel
theorem d_Co_pass_45 : decode b_Co_pass 45 = .ok (.getfield 101, 3) := by decide +kernel
theorem d_Co_pass_48 : decode b_Co_pass 48 = .ok (.ireturn, 1) := by decide +kernel
theorem d_Co_state_0 : decode b_Co_state 0 = .ok (.iload_n 1, 1) := by decide +kernel
theorem d_Co_state_1 : decode b_Co_state 1 = .ok (.tableswitch 119 0 7 #[47, 55, 63, 79, 87, 95, 103, 111], 47) := by decide +kernel
theorem d_Co_state_48 : decode b_Co_state 48 = .ok (.aload_n 0, 1) := by decide +kernel
theorem d_Co_state_49 : decode b_Co_state 49 = .ok (.getfield 23, 3) := by decide +kernel
theorem d_Co_state_52 : decode b_Co_state 52 = .ok (.getfield 48, 3) := by decide +kernel
theorem d_Co_state_55 : decode b_Co_state 55 = .ok (.ireturn, 1) := by decide +kernel
theorem d_Co_state_56 : decode b_Co_state 56 = .ok (.aload_n 0, 1) := by decide +kernel
theorem d_Co_state_57 : decode b_Co_state 57 = .ok (.getfield 23, 3) := by decide +kernel
theorem d_Co_state_60 : decode b_Co_state 60 = .ok (.getfield 104, 3) := by decide +kernel
theorem d_Co_state_63 : decode b_Co_state 63 = .ok (.ireturn, 1) := by decide +kernel
theorem d_Co_state_64 : decode b_Co_state 64 = .ok (.aload_n 0, 1) := by decide +kernel
theorem d_Co_state_65 : decode b_Co_state 65 = .ok (.getfield 23, 3) := by decide +kernel
theorem d_Co_state_68 : decode b_Co_state 68 = .ok (.getfield 107, 3) := by decide +kernel
theorem d_Co_state_71 : decode b_Co_state 71 = .ok (.ifCond .eq 7, 3) := by decide +kernel
theorem d_Co_state_74 : decode b_Co_state 74 = .ok (.iconst 1, 1) := by decide +kernel
theorem d_Co_state_75 : decode b_Co_state 75 = .ok (.goto 4, 3) := by decide +kernel
theorem d_Co_state_78 : decode b_Co_state 78 = .ok (.iconst 0, 1) := by decide +kernel
theorem d_Co_state_79 : decode b_Co_state 79 = .ok (.ireturn, 1) := by decide +kernel
theorem d_Co_state_80 : decode b_Co_state 80 = .ok (.aload_n 0, 1) := by decide +kernel
theorem d_Co_state_81 : decode b_Co_state 81 = .ok (.getfield 23, 3) := by decide +kernel
theorem d_Co_state_84 : decode b_Co_state 84 = .ok (.getfield 110, 3) := by decide +kernel
theorem d_Co_state_87 : decode b_Co_state 87 = .ok (.ireturn, 1) := by decide +kernel
theorem d_Co_state_88 : decode b_Co_state 88 = .ok (.aload_n 0, 1) := by decide +kernel
theorem d_Co_state_89 : decode b_Co_state 89 = .ok (.getfield 23, 3) := by decide +kernel
theorem d_Co_state_92 : decode b_Co_state 92 = .ok (.getfield 113, 3) := by decide +kernel
theorem d_Co_state_95 : decode b_Co_state 95 = .ok (.ireturn, 1) := by decide +kernel
theorem d_Co_state_96 : decode b_Co_state 96 = .ok (.aload_n 0, 1) := by decide +kernel
theorem d_Co_state_97 : decode b_Co_state 97 = .ok (.getfield 23, 3) := by decide +kernel
theorem d_Co_state_100 : decode b_Co_state 100 = .ok (.getfield 116, 3) := by decide +kernel
theorem d_Co_state_103 : decode b_Co_state 103 = .ok (.ireturn, 1) := by decide +kernel
theorem d_Co_state_104 : decode b_Co_state 104 = .ok (.aload_n 0, 1) := by decide +kernel
theorem d_Co_state_105 : decode b_Co_state 105 = .ok (.getfield 23, 3) := by decide +kernel
theorem d_Co_state_108 : decode b_Co_state 108 = .ok (.getfield 119, 3) := by decide +kernel
theorem d_Co_state_111 : decode b_Co_state 111 = .ok (.ireturn, 1) := by decide +kernel
theorem d_Co_state_112 : decode b_Co_state 112 = .ok (.aload_n 0, 1) := by decide +kernel
theorem d_Co_state_113 : decode b_Co_state 113 = .ok (.getfield 23, 3) := by decide +kernel
theorem d_Co_state_116 : decode b_Co_state 116 = .ok (.getfield 122, 3) := by decide +kernel
theorem d_Co_state_119 : decode b_Co_state 119 = .ok (.ireturn, 1) := by decide +kernel
theorem d_Co_state_120 : decode b_Co_state 120 = .ok (.new 55, 3) := by decide +kernel
theorem d_Co_state_123 : decode b_Co_state 123 = .ok (.dup, 1) := by decide +kernel
theorem d_Co_state_124 : decode b_Co_state 124 = .ok (.ldc 125, 2) := by decide +kernel
theorem d_Co_state_126 : decode b_Co_state 126 = .ok (.invokespecial 59, 3) := by decide +kernel
theorem d_Co_state_129 : decode b_Co_state 129 = .ok (.athrow, 1) := by decide +kernel
theorem d_Co_run_0 : decode b_Co_run 0 = .ok (.iload_n 1, 1) := by decide +kernel
theorem d_Co_run_1 : decode b_Co_run 1 = .ok (.iconst 1, 1) := by decide +kernel
theorem d_Co_run_2 : decode b_Co_run 2 = .ok (.if_icmp .lt 10, 3) := by decide +kernel
theorem d_Co_run_5 : decode b_Co_run 5 = .ok (.iload_n 1, 1) := by decide +kernel
theorem d_Co_run_6 : decode b_Co_run 6 = .ok (.sipush 10000, 3) := by decide +kernel
theorem d_Co_run_9 : decode b_Co_run 9 = .ok (.if_icmp .le 13, 3) := by decide +kernel
theorem d_Co_run_12 : decode b_Co_run 12 = .ok (.new 31, 3) := by decide +kernel
theorem d_Co_run_15 : decode b_Co_run 15 = .ok (.dup, 1) := by decide +kernel
theorem d_Co_run_16 : decode b_Co_run 16 = .ok (.ldc 86, 2) := by decide +kernel
theorem d_Co_run_18 : decode b_Co_run 18 = .ok (.invokespecial 35, 3) := by decide +kernel
theorem d_Co_run_21 : decode b_Co_run 21 = .ok (.athrow, 1) := by decide +kernel
theorem d_Co_run_22 : decode b_Co_run 22 = .ok (.aload_n 0, 1) := by decide +kernel
theorem d_Co_run_23 : decode b_Co_run 23 = .ok (.getfield 23, 3) := by decide +kernel
theorem d_Co_run_26 : decode b_Co_run 26 = .ok (.getfield 88, 3) := by decide +kernel
theorem d_Co_run_29 : decode b_Co_run 29 = .ok (.ifCond .eq 13, 3) := by decide +kernel
theorem d_Co_run_32 : decode b_Co_run 32 = .ok (.new 81, 3) := by decide +kernel
theorem d_Co_run_35 : decode b_Co_run 35 = .ok (.dup, 1) := by decide +kernel
theorem d_Co_run_36 : decode b_Co_run 36 = .ok (.ldc 91, 2) := by decide +kernel
theorem d_Co_run_38 : decode b_Co_run 38 = .ok (.invokespecial 85, 3) := by decide +kernel
theorem d_Co_run_41 : decode b_Co_run 41 = .ok (.athrow, 1) := by decide +kernel
theorem d_Co_run_42 : decode b_Co_run 42 = .ok (.iconst 0, 1) := by decide +kernel
theorem d_Co_run_43 : decode b_Co_run 43 = .ok (.istore_n 2, 1) := by decide +kernel
theorem d_Co_run_44 : decode b_Co_run 44 = .ok (.iload_n 2, 1) := by decide +kernel
theorem d_Co_run_45 : decode b_Co_run 45 = .ok (.iload_n 1, 1) := by decide +kernel
theorem d_Co_run_46 : decode b_Co_run 46 = .ok (.if_icmp .ge 28, 3) := by decide +kernel
theorem d_Co_run_49 : decode b_Co_run 49 = .ok (.aload_n 0, 1) := by decide +kernel
theorem d_Co_run_50 : decode b_Co_run 50 = .ok (.getfield 23, 3) := by decide +kernel
theorem d_Co_run_53 : decode b_Co_run 53 = .ok (.invokevirtual 93, 3) := by decide +kernel
theorem d_Co_run_56 : decode b_Co_run 56 = .ok (.aload_n 0, 1) := by decide +kernel
theorem d_Co_run_57 : decode b_Co_run 57 = .ok (.getfield 23, 3) := by decide +kernel
theorem d_Co_run_60 : decode b_Co_run 60 = .ok (.getfield 88, 3) := by decide +kernel
theorem d_Co_run_63 : decode b_Co_run 63 = .ok (.ifCond .eq 5, 3) := by decide +kernel
theorem d_Co_run_66 : decode b_Co_run 66 = .ok (.iload_n 2, 1) := by decide +kernel
theorem d_Co_run_67 : decode b_Co_run 67 = .ok (.ireturn, 1) := by decide +kernel
theorem d_Co_run_68 : decode b_Co_run 68 = .ok (.iinc 2 1, 3) := by decide +kernel
theorem d_Co_run_71 : decode b_Co_run 71 = .ok (.goto (-27), 3) := by decide +kernel
theorem d_Co_run_74 : decode b_Co_run 74 = .ok (.iload_n 1, 1) := by decide +kernel
theorem d_Co_run_75 : decode b_Co_run 75 = .ok (.ireturn, 1) := by decide +kernel
theorem f_Co_48 : Cond.fieldLink R_Co 48 R_Pr "pc" "I" ∈ zz_all := zz_mem (List.mem_of_getElem? (i := 238) (by decide +kernel)) (by decide +kernel)
theorem g_Co_48 {p : Program} {l : Launch} {e : Env} {R : Room} {s : State} {m : MethodId} {args : Array Value} {below : List Frame} {meth : Method} {c : Code} {H : Heap} {locs : List Loc} {cells slots : Nat} {Q : State → Prop} {cc : ByteArray} {pc : Nat} {ls : Array Slot} {rest : List Value} {D : va_G} {a : Nat} {tys : List (ClassId × FieldType)} {ws : va_W} (hexec : p.tables.exec = Jvm.exec) (hb : c.code = cc) (hT : ∀ w ∈ zz_all, w.before args s = true) (hown : s.vm.findClass R_Co = some m.cls) (hK : va_K D vwCl tys s) (hP : va_P D vwCl ws H) (q0 : Nat) {fs : List Value} (he : ws[q0]? = some (a, .inr (4, fs))) {v : Value} (hv : fs[4]? = some v) (hdg : decode cc pc = .ok (.getfield 48, 3)) (kk : W p l e R s m args below meth c H locs cells slots Q (F0 m (pc + 3) ls (v :: rest))) : W p l e R s m args below meth c H locs cells slots Q (F0 m pc ls (.ref a :: rest)) := va_get (C := R_Pr) (T := T_Pr) (N := 16) hexec hb hT u_Pr hown hK hP q0 he rfl 4 (by decide) (hT _ f_Co_48) (fun _ h => h) hv hdg kk
theorem f_Co_72 : Cond.fieldLink R_Co 72 R_Hl "hiKnown" "Z" ∈ zz_all := zz_mem (List.mem_of_getElem? (i := 175) (by decide +kernel)) (by decide +kernel)
theorem g_Co_72 {p : Program} {l : Launch} {e : Env} {R : Room} {s : State} {m : MethodId} {args : Array Value} {below : List Frame} {meth : Method} {c : Code} {H : Heap} {locs : List Loc} {cells slots : Nat} {Q : State → Prop} {cc : ByteArray} {pc : Nat} {ls : Array Slot} {rest : List Value} {D : va_G} {a : Nat} {tys : List (ClassId × FieldType)} {ws : va_W} (hexec : p.tables.exec = Jvm.exec) (hb : c.code = cc) (hT : ∀ w ∈ zz_all, w.before args s = true) (hown : s.vm.findClass R_Co = some m.cls) (hK : va_K D vwCl tys s) (hP : va_P D vwCl ws H) (q0 : Nat) {fs : List Value} (he : ws[q0]? = some (a, .inr (2, fs))) {v : Value} (hv : fs[2]? = some v) (hdg : decode cc pc = .ok (.getfield 72, 3)) (kk : W p l e R s m args below meth c H locs cells slots Q (F0 m (pc + 3) ls (v :: rest))) : W p l e R s m args below meth c H locs cells slots Q (F0 m pc ls (.ref a :: rest)) := va_get (C := R_Hl) (T := T_Hl) (N := 4) hexec hb hT u_Hl hown hK hP q0 he rfl 2 (by decide) (hT _ f_Co_72) (fun _ h => h) hv hdg kk
theorem f_Co_78 : Cond.fieldLink R_Co 78 R_Hl "loKnown" "Z" ∈ zz_all := zz_mem (List.mem_of_getElem? (i := 178) (by decide +kernel)) (by decide +kernel)
theorem g_Co_78 {p : Program} {l : Launch} {e : Env} {R : Room} {s : State} {m : MethodId} {args : Array Value} {below : List Frame} {meth : Method} {c : Code} {H : Heap} {locs : List Loc} {cells slots : Nat} {Q : State → Prop} {cc : ByteArray} {pc : Nat} {ls : Array Slot} {rest : List Value} {D : va_G} {a : Nat} {tys : List (ClassId × FieldType)} {ws : va_W} (hexec : p.tables.exec = Jvm.exec) (hb : c.code = cc) (hT : ∀ w ∈ zz_all, w.before args s = true) (hown : s.vm.findClass R_Co = some m.cls) (hK : va_K D vwCl tys s) (hP : va_P D vwCl ws H) (q0 : Nat) {fs : List Value} (he : ws[q0]? = some (a, .inr (2, fs))) {v : Value} (hv : fs[3]? = some v) (hdg : decode cc pc = .ok (.getfield 78, 3)) (kk : W p l e R s m args below meth c H locs cells slots Q (F0 m (pc + 3) ls (v :: rest))) : W p l e R s m args below meth c H locs cells slots Q (F0 m pc ls (.ref a :: rest)) := va_get (C := R_Hl) (T := T_Hl) (N := 4) hexec hb hT u_Hl hown hK hP q0 he rfl 3 (by decide) (hT _ f_Co_78) (fun _ h => h) hv hdg kk
theorem f_Co_88 : Cond.fieldLink R_Co 88 R_Pr "ended" "I" ∈ zz_all := zz_mem (List.mem_of_getElem? (i := 246) (by decide +kernel)) (by decide +kernel)
theorem g_Co_88 {p : Program} {l : Launch} {e : Env} {R : Room} {s : State} {m : MethodId} {args : Array Value} {below : List Frame} {meth : Method} {c : Code} {H : Heap} {locs : List Loc} {cells slots : Nat} {Q : State → Prop} {cc : ByteArray} {pc : Nat} {ls : Array Slot} {rest : List Value} {D : va_G} {a : Nat} {tys : List (ClassId × FieldType)} {ws : va_W} (hexec : p.tables.exec = Jvm.exec) (hb : c.code = cc) (hT : ∀ w ∈ zz_all, w.before args s = true) (hown : s.vm.findClass R_Co = some m.cls) (hK : va_K D vwCl tys s) (hP : va_P D vwCl ws H) (q0 : Nat) {fs : List Value} (he : ws[q0]? = some (a, .inr (4, fs))) {v : Value} (hv : fs[9]? = some v) (hdg : decode cc pc = .ok (.getfield 88, 3)) (kk : W p l e R s m args below meth c H locs cells slots Q (F0 m (pc + 3) ls (v :: rest))) : W p l e R s m args below meth c H locs cells slots Q (F0 m pc ls (.ref a :: rest)) := va_get (C := R_Pr) (T := T_Pr) (N := 16) hexec hb hT u_Pr hown hK hP q0 he rfl 9 (by decide) (hT _ f_Co_88) (fun _ h => h) hv hdg kk
theorem f_Co_101 : Cond.fieldLink R_Co 101 R_Pr "code" "I" ∈ zz_all := zz_mem (List.mem_of_getElem? (i := 247) (by decide +kernel)) (by decide +kernel)
theorem g_Co_101 {p : Program} {l : Launch} {e : Env} {R : Room} {s : State} {m : MethodId} {args : Array Value} {below : List Frame} {meth : Method} {c : Code} {H : Heap} {locs : List Loc} {cells slots : Nat} {Q : State → Prop} {cc : ByteArray} {pc : Nat} {ls : Array Slot} {rest : List Value} {D : va_G} {a : Nat} {tys : List (ClassId × FieldType)} {ws : va_W} (hexec : p.tables.exec = Jvm.exec) (hb : c.code = cc) (hT : ∀ w ∈ zz_all, w.before args s = true) (hown : s.vm.findClass R_Co = some m.cls) (hK : va_K D vwCl tys s) (hP : va_P D vwCl ws H) (q0 : Nat) {fs : List Value} (he : ws[q0]? = some (a, .inr (4, fs))) {v : Value} (hv : fs[10]? = some v) (hdg : decode cc pc = .ok (.getfield 101, 3)) (kk : W p l e R s m args below meth c H locs cells slots Q (F0 m (pc + 3) ls (v :: rest))) : W p l e R s m args below meth c H locs cells slots Q (F0 m pc ls (.ref a :: rest)) := va_get (C := R_Pr) (T := T_Pr) (N := 16) hexec hb hT u_Pr hown hK hP q0 he rfl 10 (by decide) (hT _ f_Co_101) (fun _ h => h) hv hdg kk
theorem f_Co_104 : Cond.fieldLink R_Co 104 R_Pr "next" "I" ∈ zz_all := zz_mem (List.mem_of_getElem? (i := 240) (by decide +kernel)) (by decide +kernel)
theorem g_Co_104 {p : Program} {l : Launch} {e : Env} {R : Room} {s : State} {m : MethodId} {args : Array Value} {below : List Frame} {meth : Method} {c : Code} {H : Heap} {locs : List Loc} {cells slots : Nat} {Q : State → Prop} {cc : ByteArray} {pc : Nat} {ls : Array Slot} {rest : List Value} {D : va_G} {a : Nat} {tys : List (ClassId × FieldType)} {ws : va_W} (hexec : p.tables.exec = Jvm.exec) (hb : c.code = cc) (hT : ∀ w ∈ zz_all, w.before args s = true) (hown : s.vm.findClass R_Co = some m.cls) (hK : va_K D vwCl tys s) (hP : va_P D vwCl ws H) (q0 : Nat) {fs : List Value} (he : ws[q0]? = some (a, .inr (4, fs))) {v : Value} (hv : fs[5]? = some v) (hdg : decode cc pc = .ok (.getfield 104, 3)) (kk : W p l e R s m args below meth c H locs cells slots Q (F0 m (pc + 3) ls (v :: rest))) : W p l e R s m args below meth c H locs cells slots Q (F0 m pc ls (.ref a :: rest)) := va_get (C := R_Pr) (T := T_Pr) (N := 16) hexec hb hT u_Pr hown hK hP q0 he rfl 5 (by decide) (hT _ f_Co_104) (fun _ h => h) hv hdg kk
theorem f_Co_107 : Cond.fieldLink R_Co 107 R_Pr "slot" "Z" ∈ zz_all := zz_mem (List.mem_of_getElem? (i := 242) (by decide +kernel)) (by decide +kernel)
theorem g_Co_107 {p : Program} {l : Launch} {e : Env} {R : Room} {s : State} {m : MethodId} {args : Array Value} {below : List Frame} {meth : Method} {c : Code} {H : Heap} {locs : List Loc} {cells slots : Nat} {Q : State → Prop} {cc : ByteArray} {pc : Nat} {ls : Array Slot} {rest : List Value} {D : va_G} {a : Nat} {tys : List (ClassId × FieldType)} {ws : va_W} (hexec : p.tables.exec = Jvm.exec) (hb : c.code = cc) (hT : ∀ w ∈ zz_all, w.before args s = true) (hown : s.vm.findClass R_Co = some m.cls) (hK : va_K D vwCl tys s) (hP : va_P D vwCl ws H) (q0 : Nat) {fs : List Value} (he : ws[q0]? = some (a, .inr (4, fs))) {v : Value} (hv : fs[6]? = some v) (hdg : decode cc pc = .ok (.getfield 107, 3)) (kk : W p l e R s m args below meth c H locs cells slots Q (F0 m (pc + 3) ls (v :: rest))) : W p l e R s m args below meth c H locs cells slots Q (F0 m pc ls (.ref a :: rest)) := va_get (C := R_Pr) (T := T_Pr) (N := 16) hexec hb hT u_Pr hown hK hP q0 he rfl 6 (by decide) (hT _ f_Co_107) (fun _ h => h) hv hdg kk
theorem f_Co_110 : Cond.fieldLink R_Co 110 R_Pr "steps" "I" ∈ zz_all := zz_mem (List.mem_of_getElem? (i := 250) (by decide +kernel)) (by decide +kernel)
theorem g_Co_110 {p : Program} {l : Launch} {e : Env} {R : Room} {s : State} {m : MethodId} {args : Array Value} {below : List Frame} {meth : Method} {c : Code} {H : Heap} {locs : List Loc} {cells slots : Nat} {Q : State → Prop} {cc : ByteArray} {pc : Nat} {ls : Array Slot} {rest : List Value} {D : va_G} {a : Nat} {tys : List (ClassId × FieldType)} {ws : va_W} (hexec : p.tables.exec = Jvm.exec) (hb : c.code = cc) (hT : ∀ w ∈ zz_all, w.before args s = true) (hown : s.vm.findClass R_Co = some m.cls) (hK : va_K D vwCl tys s) (hP : va_P D vwCl ws H) (q0 : Nat) {fs : List Value} (he : ws[q0]? = some (a, .inr (4, fs))) {v : Value} (hv : fs[11]? = some v) (hdg : decode cc pc = .ok (.getfield 110, 3)) (kk : W p l e R s m args below meth c H locs cells slots Q (F0 m (pc + 3) ls (v :: rest))) : W p l e R s m args below meth c H locs cells slots Q (F0 m pc ls (.ref a :: rest)) := va_get (C := R_Pr) (T := T_Pr) (N := 16) hexec hb hT u_Pr hown hK hP q0 he rfl 11 (by decide) (hT _ f_Co_110) (fun _ h => h) hv hdg kk
theorem f_Co_113 : Cond.fieldLink R_Co 113 R_Pr "loads" "I" ∈ zz_all := zz_mem (List.mem_of_getElem? (i := 251) (by decide +kernel)) (by decide +kernel)
theorem g_Co_113 {p : Program} {l : Launch} {e : Env} {R : Room} {s : State} {m : MethodId} {args : Array Value} {below : List Frame} {meth : Method} {c : Code} {H : Heap} {locs : List Loc} {cells slots : Nat} {Q : State → Prop} {cc : ByteArray} {pc : Nat} {ls : Array Slot} {rest : List Value} {D : va_G} {a : Nat} {tys : List (ClassId × FieldType)} {ws : va_W} (hexec : p.tables.exec = Jvm.exec) (hb : c.code = cc) (hT : ∀ w ∈ zz_all, w.before args s = true) (hown : s.vm.findClass R_Co = some m.cls) (hK : va_K D vwCl tys s) (hP : va_P D vwCl ws H) (q0 : Nat) {fs : List Value} (he : ws[q0]? = some (a, .inr (4, fs))) {v : Value} (hv : fs[12]? = some v) (hdg : decode cc pc = .ok (.getfield 113, 3)) (kk : W p l e R s m args below meth c H locs cells slots Q (F0 m (pc + 3) ls (v :: rest))) : W p l e R s m args below meth c H locs cells slots Q (F0 m pc ls (.ref a :: rest)) := va_get (C := R_Pr) (T := T_Pr) (N := 16) hexec hb hT u_Pr hown hK hP q0 he rfl 12 (by decide) (hT _ f_Co_113) (fun _ h => h) hv hdg kk
theorem f_Co_116 : Cond.fieldLink R_Co 116 R_Pr "stores" "I" ∈ zz_all := zz_mem (List.mem_of_getElem? (i := 253) (by decide +kernel)) (by decide +kernel)
theorem g_Co_116 {p : Program} {l : Launch} {e : Env} {R : Room} {s : State} {m : MethodId} {args : Array Value} {below : List Frame} {meth : Method} {c : Code} {H : Heap} {locs : List Loc} {cells slots : Nat} {Q : State → Prop} {cc : ByteArray} {pc : Nat} {ls : Array Slot} {rest : List Value} {D : va_G} {a : Nat} {tys : List (ClassId × FieldType)} {ws : va_W} (hexec : p.tables.exec = Jvm.exec) (hb : c.code = cc) (hT : ∀ w ∈ zz_all, w.before args s = true) (hown : s.vm.findClass R_Co = some m.cls) (hK : va_K D vwCl tys s) (hP : va_P D vwCl ws H) (q0 : Nat) {fs : List Value} (he : ws[q0]? = some (a, .inr (4, fs))) {v : Value} (hv : fs[13]? = some v) (hdg : decode cc pc = .ok (.getfield 116, 3)) (kk : W p l e R s m args below meth c H locs cells slots Q (F0 m (pc + 3) ls (v :: rest))) : W p l e R s m args below meth c H locs cells slots Q (F0 m pc ls (.ref a :: rest)) := va_get (C := R_Pr) (T := T_Pr) (N := 16) hexec hb hT u_Pr hown hK hP q0 he rfl 13 (by decide) (hT _ f_Co_116) (fun _ h => h) hv hdg kk
theorem f_Co_119 : Cond.fieldLink R_Co 119 R_Pr "branchesGone" "I" ∈ zz_all := zz_mem (List.mem_of_getElem? (i := 255) (by decide +kernel)) (by decide +kernel)
theorem g_Co_119 {p : Program} {l : Launch} {e : Env} {R : Room} {s : State} {m : MethodId} {args : Array Value} {below : List Frame} {meth : Method} {c : Code} {H : Heap} {locs : List Loc} {cells slots : Nat} {Q : State → Prop} {cc : ByteArray} {pc : Nat} {ls : Array Slot} {rest : List Value} {D : va_G} {a : Nat} {tys : List (ClassId × FieldType)} {ws : va_W} (hexec : p.tables.exec = Jvm.exec) (hb : c.code = cc) (hT : ∀ w ∈ zz_all, w.before args s = true) (hown : s.vm.findClass R_Co = some m.cls) (hK : va_K D vwCl tys s) (hP : va_P D vwCl ws H) (q0 : Nat) {fs : List Value} (he : ws[q0]? = some (a, .inr (4, fs))) {v : Value} (hv : fs[14]? = some v) (hdg : decode cc pc = .ok (.getfield 119, 3)) (kk : W p l e R s m args below meth c H locs cells slots Q (F0 m (pc + 3) ls (v :: rest))) : W p l e R s m args below meth c H locs cells slots Q (F0 m pc ls (.ref a :: rest)) := va_get (C := R_Pr) (T := T_Pr) (N := 16) hexec hb hT u_Pr hown hK hP q0 he rfl 14 (by decide) (hT _ f_Co_119) (fun _ h => h) hv hdg kk
theorem f_Co_122 : Cond.fieldLink R_Co 122 R_Pr "slotsPassed" "I" ∈ zz_all := zz_mem (List.mem_of_getElem? (i := 257) (by decide +kernel)) (by decide +kernel)
theorem g_Co_122 {p : Program} {l : Launch} {e : Env} {R : Room} {s : State} {m : MethodId} {args : Array Value} {below : List Frame} {meth : Method} {c : Code} {H : Heap} {locs : List Loc} {cells slots : Nat} {Q : State → Prop} {cc : ByteArray} {pc : Nat} {ls : Array Slot} {rest : List Value} {D : va_G} {a : Nat} {tys : List (ClassId × FieldType)} {ws : va_W} (hexec : p.tables.exec = Jvm.exec) (hb : c.code = cc) (hT : ∀ w ∈ zz_all, w.before args s = true) (hown : s.vm.findClass R_Co = some m.cls) (hK : va_K D vwCl tys s) (hP : va_P D vwCl ws H) (q0 : Nat) {fs : List Value} (he : ws[q0]? = some (a, .inr (4, fs))) {v : Value} (hv : fs[15]? = some v) (hdg : decode cc pc = .ok (.getfield 122, 3)) (kk : W p l e R s m args below meth c H locs cells slots Q (F0 m (pc + 3) ls (v :: rest))) : W p l e R s m args below meth c H locs cells slots Q (F0 m pc ls (.ref a :: rest)) := va_get (C := R_Pr) (T := T_Pr) (N := 16) hexec hb hT u_Pr hown hK hP q0 he rfl 15 (by decide) (hT _ f_Co_122) (fun _ h => h) hv hdg kk
theorem m_Co_end : zz_Mi y_Co_end b_Co_end 1 (some .int) 0 := ⟨(zz_mem (List.mem_of_getElem? (i := 300) (by decide +kernel)) (by decide +kernel)), (zz_mem (List.mem_of_getElem? (i := 301) (by decide +kernel)) (by decide +kernel)), (zz_mem (List.mem_of_getElem? (i := 111) (by decide +kernel)) (by decide +kernel)), (zz_mem (List.mem_of_getElem? (i := 302) (by decide +kernel)) (by decide +kernel)), ⟨by decide +kernel, by decide +kernel, by decide +kernel⟩⟩
theorem m_Co_put : zz_Mi y_Co_put b_Co_put 4 (some .int) 2 := ⟨(zz_mem (List.mem_of_getElem? (i := 311) (by decide +kernel)) (by decide +kernel)), (zz_mem (List.mem_of_getElem? (i := 312) (by decide +kernel)) (by decide +kernel)), (zz_mem (List.mem_of_getElem? (i := 111) (by decide +kernel)) (by decide +kernel)), (zz_mem (List.mem_of_getElem? (i := 313) (by decide +kernel)) (by decide +kernel)), ⟨by decide +kernel, by decide +kernel, by decide +kernel⟩⟩
theorem m_Co_word : zz_Mi y_Co_word b_Co_word 2 (some .int) 1 := ⟨(zz_mem (List.mem_of_getElem? (i := 404) (by decide +kernel)) (by decide +kernel)), (zz_mem (List.mem_of_getElem? (i := 405) (by decide +kernel)) (by decide +kernel)), (zz_mem (List.mem_of_getElem? (i := 111) (by decide +kernel)) (by decide +kernel)), (zz_mem (List.mem_of_getElem? (i := 406) (by decide +kernel)) (by decide +kernel)), ⟨by decide +kernel, by decide +kernel, by decide +kernel⟩⟩
theorem m_Co_go : zz_Mi y_Co_go b_Co_go 3 (some .int) 1 := ⟨(zz_mem (List.mem_of_getElem? (i := 411) (by decide +kernel)) (by decide +kernel)), (zz_mem (List.mem_of_getElem? (i := 412) (by decide +kernel)) (by decide +kernel)), (zz_mem (List.mem_of_getElem? (i := 111) (by decide +kernel)) (by decide +kernel)), (zz_mem (List.mem_of_getElem? (i := 413) (by decide +kernel)) (by decide +kernel)), ⟨by decide +kernel, by decide +kernel, by decide +kernel⟩⟩
theorem m_Co_set : zz_Mi y_Co_set b_Co_set 4 (some .int) 2 := ⟨(zz_mem (List.mem_of_getElem? (i := 428) (by decide +kernel)) (by decide +kernel)), (zz_mem (List.mem_of_getElem? (i := 429) (by decide +kernel)) (by decide +kernel)), (zz_mem (List.mem_of_getElem? (i := 111) (by decide +kernel)) (by decide +kernel)), (zz_mem (List.mem_of_getElem? (i := 430) (by decide +kernel)) (by decide +kernel)), ⟨by decide +kernel, by decide +kernel, by decide +kernel⟩⟩
theorem m_Co_get : zz_Mi y_Co_get b_Co_get 2 (some .int) 1 := ⟨(zz_mem (List.mem_of_getElem? (i := 472) (by decide +kernel)) (by decide +kernel)), (zz_mem (List.mem_of_getElem? (i := 473) (by decide +kernel)) (by decide +kernel)), (zz_mem (List.mem_of_getElem? (i := 111) (by decide +kernel)) (by decide +kernel)), (zz_mem (List.mem_of_getElem? (i := 474) (by decide +kernel)) (by decide +kernel)), ⟨by decide +kernel, by decide +kernel, by decide +kernel⟩⟩
theorem m_Co_pass : zz_Mi y_Co_pass b_Co_pass 1 (some .int) 0 := ⟨(zz_mem (List.mem_of_getElem? (i := 889) (by decide +kernel)) (by decide +kernel)), (zz_mem (List.mem_of_getElem? (i := 890) (by decide +kernel)) (by decide +kernel)), (zz_mem (List.mem_of_getElem? (i := 111) (by decide +kernel)) (by decide +kernel)), (zz_mem (List.mem_of_getElem? (i := 891) (by decide +kernel)) (by decide +kernel)), ⟨by decide +kernel, by decide +kernel, by decide +kernel⟩⟩
theorem m_Co_state : zz_Mi y_Co_state b_Co_state 2 (some .int) 1 := ⟨(zz_mem (List.mem_of_getElem? (i := 901) (by decide +kernel)) (by decide +kernel)), (zz_mem (List.mem_of_getElem? (i := 902) (by decide +kernel)) (by decide +kernel)), (zz_mem (List.mem_of_getElem? (i := 111) (by decide +kernel)) (by decide +kernel)), (zz_mem (List.mem_of_getElem? (i := 903) (by decide +kernel)) (by decide +kernel)), ⟨by decide +kernel, by decide +kernel, by decide +kernel⟩⟩
theorem m_Co_run : zz_Mi y_Co_run b_Co_run 3 (some .int) 1 := ⟨(zz_mem (List.mem_of_getElem? (i := 495) (by decide +kernel)) (by decide +kernel)), (zz_mem (List.mem_of_getElem? (i := 496) (by decide +kernel)) (by decide +kernel)), (zz_mem (List.mem_of_getElem? (i := 111) (by decide +kernel)) (by decide +kernel)), (zz_mem (List.mem_of_getElem? (i := 497) (by decide +kernel)) (by decide +kernel)), ⟨by decide +kernel, by decide +kernel, by decide +kernel⟩⟩
theorem k_Co_27 : Cond.methodLink R_Co 27 y_Me_good ∈ zz_all := zz_mem (List.mem_of_getElem? (i := 314) (by decide +kernel)) (by decide +kernel)
theorem k_Co_38 : Cond.methodLink R_Co 38 y_Me_read ∈ zz_all := zz_mem (List.mem_of_getElem? (i := 386) (by decide +kernel)) (by decide +kernel)
theorem k_Co_42 : Cond.methodLink R_Co 42 y_Me_write ∈ zz_all := zz_mem (List.mem_of_getElem? (i := 396) (by decide +kernel)) (by decide +kernel)
theorem k_Co_52 : Cond.methodLink R_Co 52 y_Pr_startAt ∈ zz_all := zz_mem (List.mem_of_getElem? (i := 415) (by decide +kernel)) (by decide +kernel)
theorem k_Co_60 : Cond.methodLink R_Co 60 y_Co_held ∈ zz_all := zz_mem (List.mem_of_getElem? (i := 447) (by decide +kernel)) (by decide +kernel)
theorem k_Co_64 : Cond.methodLink R_Co 64 y_Co_hold ∈ zz_all := zz_mem (List.mem_of_getElem? (i := 451) (by decide +kernel)) (by decide +kernel)
theorem k_Co_93 : Cond.methodLink R_Co 93 y_Pr_step ∈ zz_all := zz_mem (List.mem_of_getElem? (i := 500) (by decide +kernel)) (by decide +kernel)
theorem k_Co_98 : Cond.methodLink R_Co 98 y_Pr_stepOver ∈ zz_all := zz_mem (List.mem_of_getElem? (i := 893) (by decide +kernel)) (by decide +kernel)
def wp_Co_end (ms : Int32) (mn : Nat) (g : Nat → Int32) (rg : Nat → Int32) (hq : Nat → Int32) (mf : Nat → Int32) (cd : Int32) (fg : Nat → Int32) (L : Int32 × Int32 × Int32 × Int64) (O : Int32 × Int32 × Int32 × Int64) (P : Int32 → Prop) : Prop := P (g 5)
abbrev rm_Co_end : Room := { frames := 0, cells := 0, slots := 0, locals := 0 }
set_option maxHeartbeats 4000000 in
set_option maxRecDepth 100000 in
theorem c_Co_end (l : Launch) (D : va_G) (cI : ClassId) (qc : Nat) (qp : Nat) (qr : Nat) (qh : Nat) (qm : Nat) (qw : Nat) (qu : Nat) (qf : Nat) (ql : Nat) (qo : Nat) (ms : Int32) (mn : Nat) (g : Nat → Int32) (rg : Nat → Int32) (hq : Nat → Int32) (mf : Nat → Int32) (cd : Int32) (fg : Nat → Int32) (L : Int32 × Int32 × Int32 × Int64) (O : Int32 × Int32 × Int32 × Int64) (P : Int32 → Prop) (h : wp_Co_end ms mn g rg hq mf cd fg L O P) : Met l y_Co_end (zz_ws y_Co_end b_Co_end 1 (some .int)) rm_Co_end (va_Pc [.ref qc] (zz_pr D [(cI, .int)] (wC qc qp qr qh qm qw qu qf ql qo cI ms mn g rg hq mf cd fg L O))) (vp_Si P) 0 0 (fun _ => False) := by
  refine Met.ofW (cc := b_Co_end) (maxL := 1) (ret := (some .int)) (by decide) rfl ?_
  intro p e s m args below meth c s₁ B hml hv
  obtain ⟨rfl, hP, hK⟩ := hv
  have hx := B.exec
  have hb := B.bytes
  have hr := B.returns
  have hts := atoms_spec (ws := (zz_ws y_Co_end b_Co_end 1 (some .int))) B.pre
  have hown : s.vm.findClass R_Co = some m.cls := findClass_of_methodNamed B.named
  have hlocks := B.notSynchronized
  have hT := zz_hts hts
  have X : CallFix p m c b_Co_end 1 s ([.ref qc] : List Value).toArray (zz_ws y_Co_end b_Co_end 1 (some .int)) R_Co := ⟨hx, hb, hml, hown, hts⟩
  have hf0 : 0 + 0 ≤ (headSpec (zz_ws y_Co_end b_Co_end 1 (some .int)) rm_Co_end).room.cells ∧ 0 + 0 ≤ (headSpec (zz_ws y_Co_end b_Co_end 1 (some .int)) rm_Co_end).room.slots := ⟨Nat.le_of_ble_eq_true rfl, Nat.le_of_ble_eq_true rfl⟩
  have hl := lv_entry ([.ref qc]) (n := 1) (Nat.le_of_ble_eq_true rfl)
  rw [lg_entry_eq]
  generalize (lg_sl ([.ref qc]) ++ List.replicate (1 - (lg_sl ([.ref qc])).length) Slot.unset).toArray = ls at hl ⊢
  have hl : lv_has ls 1 [(0, .ref qc)] := hl
  refine lv_aload_n hx hb d_Co_end_0 rfl (lv_at hl 0 rfl) ?_
  refine g_Co_23 (v := .ref qp) hx hb hT hown hK hP 0 rfl rfl d_Co_end_1 ?_
  refine g_Co_88 (v := .int (g 5)) hx hb hT hown hK hP 1 rfl rfl d_Co_end_4 ?_
  exact W.iret (v := (g 5)) hx hb hr (fun t ht hW => ⟨(g 5),  rfl, h, ht⟩) t_nil d_Co_end_7

