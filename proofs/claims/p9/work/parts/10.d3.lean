theorem d_JI_bitCount_15 : decode b_JI_bitCount 15 = .ok (.iload_n 0, 1) := by decide +kernel
theorem d_JI_bitCount_16 : decode b_JI_bitCount 16 = .ok (.iconst 2, 1) := by decide +kernel
theorem d_JI_bitCount_17 : decode b_JI_bitCount 17 = .ok (.iushr, 1) := by decide +kernel
theorem d_JI_bitCount_18 : decode b_JI_bitCount 18 = .ok (.ldc_w 266, 3) := by decide +kernel
theorem d_JI_bitCount_21 : decode b_JI_bitCount 21 = .ok (.iand, 1) := by decide +kernel
theorem d_JI_bitCount_22 : decode b_JI_bitCount 22 = .ok (.iadd, 1) := by decide +kernel
theorem d_JI_bitCount_23 : decode b_JI_bitCount 23 = .ok (.istore_n 0, 1) := by decide +kernel
theorem d_JI_bitCount_24 : decode b_JI_bitCount 24 = .ok (.iload_n 0, 1) := by decide +kernel
theorem d_JI_bitCount_25 : decode b_JI_bitCount 25 = .ok (.iload_n 0, 1) := by decide +kernel
theorem d_JI_bitCount_26 : decode b_JI_bitCount 26 = .ok (.iconst 4, 1) := by decide +kernel
theorem d_JI_bitCount_27 : decode b_JI_bitCount 27 = .ok (.iushr, 1) := by decide +kernel
theorem d_JI_bitCount_28 : decode b_JI_bitCount 28 = .ok (.iadd, 1) := by decide +kernel
theorem d_JI_bitCount_29 : decode b_JI_bitCount 29 = .ok (.ldc_w 267, 3) := by decide +kernel
theorem d_JI_bitCount_32 : decode b_JI_bitCount 32 = .ok (.iand, 1) := by decide +kernel
theorem d_JI_bitCount_33 : decode b_JI_bitCount 33 = .ok (.istore_n 0, 1) := by decide +kernel
theorem d_JI_bitCount_34 : decode b_JI_bitCount 34 = .ok (.iload_n 0, 1) := by decide +kernel
theorem d_JI_bitCount_35 : decode b_JI_bitCount 35 = .ok (.iload_n 0, 1) := by decide +kernel
theorem d_JI_bitCount_36 : decode b_JI_bitCount 36 = .ok (.bipush 8, 2) := by decide +kernel
theorem d_JI_bitCount_38 : decode b_JI_bitCount 38 = .ok (.iushr, 1) := by decide +kernel
theorem d_JI_bitCount_39 : decode b_JI_bitCount 39 = .ok (.iadd, 1) := by decide +kernel
theorem d_JI_bitCount_40 : decode b_JI_bitCount 40 = .ok (.istore_n 0, 1) := by decide +kernel
theorem d_JI_bitCount_41 : decode b_JI_bitCount 41 = .ok (.iload_n 0, 1) := by decide +kernel
theorem d_JI_bitCount_42 : decode b_JI_bitCount 42 = .ok (.iload_n 0, 1) := by decide +kernel
theorem d_JI_bitCount_43 : decode b_JI_bitCount 43 = .ok (.bipush 16, 2) := by decide +kernel
theorem d_JI_bitCount_45 : decode b_JI_bitCount 45 = .ok (.iushr, 1) := by decide +kernel
theorem d_JI_bitCount_46 : decode b_JI_bitCount 46 = .ok (.iadd, 1) := by decide +kernel
theorem d_JI_bitCount_47 : decode b_JI_bitCount 47 = .ok (.istore_n 0, 1) := by decide +kernel
theorem d_JI_bitCount_48 : decode b_JI_bitCount 48 = .ok (.iload_n 0, 1) := by decide +kernel
theorem d_JI_bitCount_49 : decode b_JI_bitCount 49 = .ok (.bipush 63, 2) := by decide +kernel
theorem d_JI_bitCount_51 : decode b_JI_bitCount 51 = .ok (.iand, 1) := by decide +kernel
theorem d_JI_bitCount_52 : decode b_JI_bitCount 52 = .ok (.ireturn, 1) := by decide +kernel
theorem d_Pr_leadingZeros_0 : decode b_Pr_leadingZeros 0 = .ok (.iload_n 0, 1) := by decide +kernel
theorem d_Pr_leadingZeros_1 : decode b_Pr_leadingZeros 1 = .ok (.iload_n 0, 1) := by decide +kernel
theorem d_Pr_leadingZeros_2 : decode b_Pr_leadingZeros 2 = .ok (.iconst 1, 1) := by decide +kernel
theorem d_Pr_leadingZeros_3 : decode b_Pr_leadingZeros 3 = .ok (.iushr, 1) := by decide +kernel
theorem d_Pr_leadingZeros_4 : decode b_Pr_leadingZeros 4 = .ok (.ior, 1) := by decide +kernel
theorem d_Pr_leadingZeros_5 : decode b_Pr_leadingZeros 5 = .ok (.istore_n 1, 1) := by decide +kernel
theorem d_Pr_leadingZeros_6 : decode b_Pr_leadingZeros 6 = .ok (.iload_n 1, 1) := by decide +kernel
theorem d_Pr_leadingZeros_7 : decode b_Pr_leadingZeros 7 = .ok (.iload_n 1, 1) := by decide +kernel
theorem d_Pr_leadingZeros_8 : decode b_Pr_leadingZeros 8 = .ok (.iconst 2, 1) := by decide +kernel
theorem d_Pr_leadingZeros_9 : decode b_Pr_leadingZeros 9 = .ok (.iushr, 1) := by decide +kernel
theorem d_Pr_leadingZeros_10 : decode b_Pr_leadingZeros 10 = .ok (.ior, 1) := by decide +kernel
theorem d_Pr_leadingZeros_11 : decode b_Pr_leadingZeros 11 = .ok (.istore_n 1, 1) := by decide +kernel
theorem d_Pr_leadingZeros_12 : decode b_Pr_leadingZeros 12 = .ok (.iload_n 1, 1) := by decide +kernel
theorem d_Pr_leadingZeros_13 : decode b_Pr_leadingZeros 13 = .ok (.iload_n 1, 1) := by decide +kernel
theorem d_Pr_leadingZeros_14 : decode b_Pr_leadingZeros 14 = .ok (.iconst 4, 1) := by decide +kernel
theorem d_Pr_leadingZeros_15 : decode b_Pr_leadingZeros 15 = .ok (.iushr, 1) := by decide +kernel
theorem d_Pr_leadingZeros_16 : decode b_Pr_leadingZeros 16 = .ok (.ior, 1) := by decide +kernel
theorem d_Pr_leadingZeros_17 : decode b_Pr_leadingZeros 17 = .ok (.istore_n 1, 1) := by decide +kernel
theorem d_Pr_leadingZeros_18 : decode b_Pr_leadingZeros 18 = .ok (.iload_n 1, 1) := by decide +kernel
theorem d_Pr_leadingZeros_19 : decode b_Pr_leadingZeros 19 = .ok (.iload_n 1, 1) := by decide +kernel
theorem d_Pr_leadingZeros_20 : decode b_Pr_leadingZeros 20 = .ok (.bipush 8, 2) := by decide +kernel
theorem d_Pr_leadingZeros_22 : decode b_Pr_leadingZeros 22 = .ok (.iushr, 1) := by decide +kernel
theorem d_Pr_leadingZeros_23 : decode b_Pr_leadingZeros 23 = .ok (.ior, 1) := by decide +kernel
theorem d_Pr_leadingZeros_24 : decode b_Pr_leadingZeros 24 = .ok (.istore_n 1, 1) := by decide +kernel
theorem d_Pr_leadingZeros_25 : decode b_Pr_leadingZeros 25 = .ok (.iload_n 1, 1) := by decide +kernel
theorem d_Pr_leadingZeros_26 : decode b_Pr_leadingZeros 26 = .ok (.iload_n 1, 1) := by decide +kernel
theorem d_Pr_leadingZeros_27 : decode b_Pr_leadingZeros 27 = .ok (.bipush 16, 2) := by decide +kernel
theorem d_Pr_leadingZeros_29 : decode b_Pr_leadingZeros 29 = .ok (.iushr, 1) := by decide +kernel
theorem d_Pr_leadingZeros_30 : decode b_Pr_leadingZeros 30 = .ok (.ior, 1) := by decide +kernel
theorem d_Pr_leadingZeros_31 : decode b_Pr_leadingZeros 31 = .ok (.istore_n 1, 1) := by decide +kernel
theorem d_Pr_leadingZeros_32 : decode b_Pr_leadingZeros 32 = .ok (.bipush 32, 2) := by decide +kernel
theorem d_Pr_leadingZeros_34 : decode b_Pr_leadingZeros 34 = .ok (.iload_n 1, 1) := by decide +kernel
theorem d_Pr_leadingZeros_35 : decode b_Pr_leadingZeros 35 = .ok (.invokestatic 285, 3) := by decide +kernel
theorem d_Pr_leadingZeros_38 : decode b_Pr_leadingZeros 38 = .ok (.isub, 1) := by decide +kernel
theorem d_Pr_leadingZeros_39 : decode b_Pr_leadingZeros 39 = .ok (.ireturn, 1) := by decide +kernel
theorem d_Pr_trap_0 : decode b_Pr_trap 0 = .ok (.iload_n 1, 1) := by decide +kernel
theorem d_Pr_trap_1 : decode b_Pr_trap 1 = .ok (.tableswitch 123 0 6 #[43, 54, 72, 83, 101, 123, 112], 43) := by decide +kernel
theorem d_Pr_trap_44 : decode b_Pr_trap 44 = .ok (.iload_n 2, 1) := by decide +kernel
theorem d_Pr_trap_45 : decode b_Pr_trap 45 = .ok (.iload_n 3, 1) := by decide +kernel
theorem d_Pr_trap_46 : decode b_Pr_trap 46 = .ok (.if_icmp .lt 7, 3) := by decide +kernel
theorem d_Pr_trap_49 : decode b_Pr_trap 49 = .ok (.iconst 5, 1) := by decide +kernel
theorem d_Pr_trap_50 : decode b_Pr_trap 50 = .ok (.goto 4, 3) := by decide +kernel
theorem d_Pr_trap_53 : decode b_Pr_trap 53 = .ok (.iconst 0, 1) := by decide +kernel
theorem d_Pr_trap_54 : decode b_Pr_trap 54 = .ok (.ireturn, 1) := by decide +kernel
theorem d_Pr_trap_55 : decode b_Pr_trap 55 = .ok (.iload_n 2, 1) := by decide +kernel
theorem d_Pr_trap_56 : decode b_Pr_trap 56 = .ok (.invokestatic 208, 3) := by decide +kernel
theorem d_Pr_trap_59 : decode b_Pr_trap 59 = .ok (.iload_n 3, 1) := by decide +kernel
theorem d_Pr_trap_60 : decode b_Pr_trap 60 = .ok (.invokestatic 208, 3) := by decide +kernel
theorem d_Pr_trap_63 : decode b_Pr_trap 63 = .ok (.lcmp, 1) := by decide +kernel
theorem d_Pr_trap_64 : decode b_Pr_trap 64 = .ok (.ifCond .lt 7, 3) := by decide +kernel
theorem d_Pr_trap_67 : decode b_Pr_trap 67 = .ok (.iconst 5, 1) := by decide +kernel
theorem d_Pr_trap_68 : decode b_Pr_trap 68 = .ok (.goto 4, 3) := by decide +kernel
theorem d_Pr_trap_71 : decode b_Pr_trap 71 = .ok (.iconst 0, 1) := by decide +kernel
theorem d_Pr_trap_72 : decode b_Pr_trap 72 = .ok (.ireturn, 1) := by decide +kernel
theorem d_Pr_trap_73 : decode b_Pr_trap 73 = .ok (.iload_n 2, 1) := by decide +kernel
theorem d_Pr_trap_74 : decode b_Pr_trap 74 = .ok (.iload_n 3, 1) := by decide +kernel
theorem d_Pr_trap_75 : decode b_Pr_trap 75 = .ok (.if_icmp .ge 7, 3) := by decide +kernel
theorem d_Pr_trap_78 : decode b_Pr_trap 78 = .ok (.iconst 5, 1) := by decide +kernel
theorem d_Pr_trap_79 : decode b_Pr_trap 79 = .ok (.goto 4, 3) := by decide +kernel
theorem d_Pr_trap_82 : decode b_Pr_trap 82 = .ok (.iconst 0, 1) := by decide +kernel
theorem d_Pr_trap_83 : decode b_Pr_trap 83 = .ok (.ireturn, 1) := by decide +kernel
theorem d_Pr_trap_84 : decode b_Pr_trap 84 = .ok (.iload_n 2, 1) := by decide +kernel
theorem d_Pr_trap_85 : decode b_Pr_trap 85 = .ok (.invokestatic 208, 3) := by decide +kernel
theorem d_Pr_trap_88 : decode b_Pr_trap 88 = .ok (.iload_n 3, 1) := by decide +kernel
theorem d_Pr_trap_89 : decode b_Pr_trap 89 = .ok (.invokestatic 208, 3) := by decide +kernel
theorem d_Pr_trap_92 : decode b_Pr_trap 92 = .ok (.lcmp, 1) := by decide +kernel
theorem d_Pr_trap_93 : decode b_Pr_trap 93 = .ok (.ifCond .ge 7, 3) := by decide +kernel
theorem d_Pr_trap_96 : decode b_Pr_trap 96 = .ok (.iconst 5, 1) := by decide +kernel
theorem d_Pr_trap_97 : decode b_Pr_trap 97 = .ok (.goto 4, 3) := by decide +kernel
theorem d_Pr_trap_100 : decode b_Pr_trap 100 = .ok (.iconst 0, 1) := by decide +kernel
theorem d_Pr_trap_101 : decode b_Pr_trap 101 = .ok (.ireturn, 1) := by decide +kernel
theorem d_Pr_trap_102 : decode b_Pr_trap 102 = .ok (.iload_n 2, 1) := by decide +kernel
theorem d_Pr_trap_103 : decode b_Pr_trap 103 = .ok (.iload_n 3, 1) := by decide +kernel
theorem d_Pr_trap_104 : decode b_Pr_trap 104 = .ok (.if_icmp .ne 7, 3) := by decide +kernel
theorem d_Pr_trap_107 : decode b_Pr_trap 107 = .ok (.iconst 5, 1) := by decide +kernel
theorem d_Pr_trap_108 : decode b_Pr_trap 108 = .ok (.goto 4, 3) := by decide +kernel
theorem d_Pr_trap_111 : decode b_Pr_trap 111 = .ok (.iconst 0, 1) := by decide +kernel
theorem d_Pr_trap_112 : decode b_Pr_trap 112 = .ok (.ireturn, 1) := by decide +kernel
theorem d_Pr_trap_113 : decode b_Pr_trap 113 = .ok (.iload_n 2, 1) := by decide +kernel
theorem d_Pr_trap_114 : decode b_Pr_trap 114 = .ok (.iload_n 3, 1) := by decide +kernel
theorem d_Pr_trap_115 : decode b_Pr_trap 115 = .ok (.if_icmp .eq 7, 3) := by decide +kernel
theorem d_Pr_trap_118 : decode b_Pr_trap 118 = .ok (.iconst 5, 1) := by decide +kernel
theorem d_Pr_trap_119 : decode b_Pr_trap 119 = .ok (.goto 4, 3) := by decide +kernel
theorem d_Pr_trap_122 : decode b_Pr_trap 122 = .ok (.iconst 0, 1) := by decide +kernel
theorem d_Pr_trap_123 : decode b_Pr_trap 123 = .ok (.ireturn, 1) := by decide +kernel
theorem d_Pr_trap_124 : decode b_Pr_trap 124 = .ok (.iconst 3, 1) := by decide +kernel
theorem d_Pr_trap_125 : decode b_Pr_trap 125 = .ok (.ireturn, 1) := by decide +kernel
theorem d_Pr_address_0 : decode b_Pr_address 0 = .ok (.aload_n 0, 1) := by decide +kernel
theorem d_Pr_address_1 : decode b_Pr_address 1 = .ok (.getfield 9, 3) := by decide +kernel
theorem d_Pr_address_4 : decode b_Pr_address 4 = .ok (.iload_n 1, 1) := by decide +kernel
theorem d_Pr_address_5 : decode b_Pr_address 5 = .ok (.invokestatic 83, 3) := by decide +kernel
theorem d_Pr_address_8 : decode b_Pr_address 8 = .ok (.iaload, 1) := by decide +kernel
theorem d_Pr_address_9 : decode b_Pr_address 9 = .ok (.iload_n 1, 1) := by decide +kernel
theorem d_Pr_address_10 : decode b_Pr_address 10 = .ok (.invokestatic 221, 3) := by decide +kernel
theorem d_Pr_address_13 : decode b_Pr_address 13 = .ok (.iadd, 1) := by decide +kernel
theorem d_Pr_address_14 : decode b_Pr_address 14 = .ok (.ireturn, 1) := by decide +kernel
theorem d_Pr_move_0 : decode b_Pr_move 0 = .ok (.aload_n 0, 1) := by decide +kernel
theorem d_Pr_move_1 : decode b_Pr_move 1 = .ok (.iload_n 1, 1) := by decide +kernel
theorem d_Pr_move_2 : decode b_Pr_move 2 = .ok (.putfield 48, 3) := by decide +kernel
theorem d_Pr_move_5 : decode b_Pr_move 5 = .ok (.aload_n 0, 1) := by decide +kernel
theorem d_Pr_move_6 : decode b_Pr_move 6 = .ok (.iload_n 2, 1) := by decide +kernel
theorem d_Pr_move_7 : decode b_Pr_move 7 = .ok (.putfield 29, 3) := by decide +kernel
theorem d_Pr_move_10 : decode b_Pr_move 10 = .ok (.aload_n 0, 1) := by decide +kernel
theorem d_Pr_move_11 : decode b_Pr_move 11 = .ok (.iload_n 3, 1) := by decide +kernel
theorem d_Pr_move_12 : decode b_Pr_move 12 = .ok (.putfield 68, 3) := by decide +kernel
theorem d_Pr_move_15 : decode b_Pr_move 15 = .ok (.return_, 1) := by decide +kernel
theorem d_Pr_startAt_0 : decode b_Pr_startAt 0 = .ok (.aload_n 0, 1) := by decide +kernel
theorem d_Pr_startAt_1 : decode b_Pr_startAt 1 = .ok (.iload_n 1, 1) := by decide +kernel
theorem d_Pr_startAt_2 : decode b_Pr_startAt 2 = .ok (.iload_n 1, 1) := by decide +kernel
theorem d_Pr_startAt_3 : decode b_Pr_startAt 3 = .ok (.iconst 4, 1) := by decide +kernel
theorem d_Pr_startAt_4 : decode b_Pr_startAt 4 = .ok (.iadd, 1) := by decide +kernel
theorem d_Pr_startAt_5 : decode b_Pr_startAt 5 = .ok (.iconst 0, 1) := by decide +kernel
theorem d_Pr_startAt_6 : decode b_Pr_startAt 6 = .ok (.invokevirtual 37, 3) := by decide +kernel
theorem d_Pr_startAt_9 : decode b_Pr_startAt 9 = .ok (.aload_n 0, 1) := by decide +kernel
theorem d_Pr_startAt_10 : decode b_Pr_startAt 10 = .ok (.iconst 0, 1) := by decide +kernel
theorem d_Pr_startAt_11 : decode b_Pr_startAt 11 = .ok (.putfield 41, 3) := by decide +kernel
theorem d_Pr_startAt_14 : decode b_Pr_startAt 14 = .ok (.aload_n 0, 1) := by decide +kernel
theorem d_Pr_startAt_15 : decode b_Pr_startAt 15 = .ok (.iconst 0, 1) := by decide +kernel
theorem d_Pr_startAt_16 : decode b_Pr_startAt 16 = .ok (.putfield 45, 3) := by decide +kernel
theorem d_Pr_startAt_19 : decode b_Pr_startAt 19 = .ok (.return_, 1) := by decide +kernel
theorem d_Pr_write_0 : decode b_Pr_write 0 = .ok (.iload_n 1, 1) := by decide +kernel
theorem d_Pr_write_1 : decode b_Pr_write 1 = .ok (.ifCond .eq 13, 3) := by decide +kernel
theorem d_Pr_write_4 : decode b_Pr_write 4 = .ok (.aload_n 0, 1) := by decide +kernel
theorem d_Pr_write_5 : decode b_Pr_write 5 = .ok (.getfield 9, 3) := by decide +kernel
theorem d_Pr_write_8 : decode b_Pr_write 8 = .ok (.iload_n 1, 1) := by decide +kernel
theorem d_Pr_write_9 : decode b_Pr_write 9 = .ok (.bipush 31, 2) := by decide +kernel
theorem d_Pr_write_11 : decode b_Pr_write 11 = .ok (.iand, 1) := by decide +kernel
theorem d_Pr_write_12 : decode b_Pr_write 12 = .ok (.iload_n 2, 1) := by decide +kernel
theorem d_Pr_write_13 : decode b_Pr_write 13 = .ok (.iastore, 1) := by decide +kernel
theorem d_Pr_write_14 : decode b_Pr_write 14 = .ok (.return_, 1) := by decide +kernel
theorem d_Pr_result_0 : decode b_Pr_result 0 = .ok (.aload_n 0, 1) := by decide +kernel
theorem d_Pr_result_1 : decode b_Pr_result 1 = .ok (.iload_n 1, 1) := by decide +kernel
theorem d_Pr_result_2 : decode b_Pr_result 2 = .ok (.iload_n 2, 1) := by decide +kernel
theorem d_Pr_result_3 : decode b_Pr_result 3 = .ok (.invokevirtual 245, 3) := by decide +kernel
theorem d_Pr_result_6 : decode b_Pr_result 6 = .ok (.iconst 0, 1) := by decide +kernel
theorem d_Pr_result_7 : decode b_Pr_result 7 = .ok (.ireturn, 1) := by decide +kernel
theorem d_Pr_moveIf_0 : decode b_Pr_moveIf 0 = .ok (.iload_n 2, 1) := by decide +kernel
theorem d_Pr_moveIf_1 : decode b_Pr_moveIf 1 = .ok (.ifCond .eq 23, 3) := by decide +kernel
theorem d_Pr_moveIf_4 : decode b_Pr_moveIf 4 = .ok (.aload_n 0, 1) := by decide +kernel
theorem d_Pr_moveIf_5 : decode b_Pr_moveIf 5 = .ok (.iload_n 1, 1) := by decide +kernel
theorem d_Pr_moveIf_6 : decode b_Pr_moveIf 6 = .ok (.invokestatic 158, 3) := by decide +kernel
theorem d_Pr_moveIf_9 : decode b_Pr_moveIf 9 = .ok (.aload_n 0, 1) := by decide +kernel
theorem d_Pr_moveIf_10 : decode b_Pr_moveIf 10 = .ok (.getfield 9, 3) := by decide +kernel
theorem d_Pr_moveIf_13 : decode b_Pr_moveIf 13 = .ok (.iload_n 1, 1) := by decide +kernel
theorem d_Pr_moveIf_14 : decode b_Pr_moveIf 14 = .ok (.invokestatic 83, 3) := by decide +kernel
theorem d_Pr_moveIf_17 : decode b_Pr_moveIf 17 = .ok (.iaload, 1) := by decide +kernel
theorem d_Pr_moveIf_18 : decode b_Pr_moveIf 18 = .ok (.invokevirtual 161, 3) := by decide +kernel
theorem d_Pr_moveIf_21 : decode b_Pr_moveIf 21 = .ok (.goto 4, 3) := by decide +kernel
theorem d_Pr_moveIf_24 : decode b_Pr_moveIf 24 = .ok (.iconst 0, 1) := by decide +kernel
theorem d_Pr_moveIf_25 : decode b_Pr_moveIf 25 = .ok (.ireturn, 1) := by decide +kernel
theorem d_Pr_shiftOrMoveOnCondition_0 : decode b_Pr_shiftOrMoveOnCondition 0 = .ok (.aload_n 0, 1) := by decide +kernel
theorem d_Pr_shiftOrMoveOnCondition_1 : decode b_Pr_shiftOrMoveOnCondition 1 = .ok (.getfield 9, 3) := by decide +kernel
theorem d_Pr_shiftOrMoveOnCondition_4 : decode b_Pr_shiftOrMoveOnCondition 4 = .ok (.iload_n 1, 1) := by decide +kernel
theorem d_Pr_shiftOrMoveOnCondition_5 : decode b_Pr_shiftOrMoveOnCondition 5 = .ok (.invokestatic 89, 3) := by decide +kernel
theorem d_Pr_shiftOrMoveOnCondition_8 : decode b_Pr_shiftOrMoveOnCondition 8 = .ok (.iaload, 1) := by decide +kernel
theorem d_Pr_shiftOrMoveOnCondition_9 : decode b_Pr_shiftOrMoveOnCondition 9 = .ok (.istore_n 2, 1) := by decide +kernel
theorem d_Pr_shiftOrMoveOnCondition_10 : decode b_Pr_shiftOrMoveOnCondition 10 = .ok (.iload_n 1, 1) := by decide +kernel
theorem d_Pr_shiftOrMoveOnCondition_11 : decode b_Pr_shiftOrMoveOnCondition 11 = .ok (.bipush 6, 2) := by decide +kernel
theorem d_Pr_shiftOrMoveOnCondition_13 : decode b_Pr_shiftOrMoveOnCondition 13 = .ok (.iushr, 1) := by decide +kernel
theorem d_Pr_shiftOrMoveOnCondition_14 : decode b_Pr_shiftOrMoveOnCondition 14 = .ok (.bipush 31, 2) := by decide +kernel
theorem d_Pr_shiftOrMoveOnCondition_16 : decode b_Pr_shiftOrMoveOnCondition 16 = .ok (.iand, 1) := by decide +kernel
theorem d_Pr_shiftOrMoveOnCondition_17 : decode b_Pr_shiftOrMoveOnCondition 17 = .ok (.istore_n 3, 1) := by decide +kernel
theorem d_Pr_shiftOrMoveOnCondition_18 : decode b_Pr_shiftOrMoveOnCondition 18 = .ok (.aload_n 0, 1) := by decide +kernel
theorem d_Pr_shiftOrMoveOnCondition_19 : decode b_Pr_shiftOrMoveOnCondition 19 = .ok (.getfield 9, 3) := by decide +kernel
theorem d_Pr_shiftOrMoveOnCondition_22 : decode b_Pr_shiftOrMoveOnCondition 22 = .ok (.iload_n 1, 1) := by decide +kernel
theorem d_Pr_shiftOrMoveOnCondition_23 : decode b_Pr_shiftOrMoveOnCondition 23 = .ok (.invokestatic 83, 3) := by decide +kernel
theorem d_Pr_shiftOrMoveOnCondition_26 : decode b_Pr_shiftOrMoveOnCondition 26 = .ok (.iaload, 1) := by decide +kernel
theorem d_Pr_shiftOrMoveOnCondition_27 : decode b_Pr_shiftOrMoveOnCondition 27 = .ok (.bipush 31, 2) := by decide +kernel
theorem d_Pr_shiftOrMoveOnCondition_29 : decode b_Pr_shiftOrMoveOnCondition 29 = .ok (.iand, 1) := by decide +kernel
theorem d_Pr_shiftOrMoveOnCondition_30 : decode b_Pr_shiftOrMoveOnCondition 30 = .ok (.istore 4, 2) := by decide +kernel
theorem d_Pr_shiftOrMoveOnCondition_32 : decode b_Pr_shiftOrMoveOnCondition 32 = .ok (.iload_n 1, 1) := by decide +kernel
theorem d_Pr_shiftOrMoveOnCondition_33 : decode b_Pr_shiftOrMoveOnCondition 33 = .ok (.invokestatic 136, 3) := by decide +kernel
theorem d_Pr_shiftOrMoveOnCondition_36 : decode b_Pr_shiftOrMoveOnCondition 36 = .ok (.tableswitch 137 0 7 #[48, 123, 60, 72, 84, 137, 97, 110], 48) := by decide +kernel
theorem d_Pr_shiftOrMoveOnCondition_84 : decode b_Pr_shiftOrMoveOnCondition 84 = .ok (.aload_n 0, 1) := by decide +kernel
theorem d_Pr_shiftOrMoveOnCondition_85 : decode b_Pr_shiftOrMoveOnCondition 85 = .ok (.iload_n 1, 1) := by decide +kernel
theorem d_Pr_shiftOrMoveOnCondition_86 : decode b_Pr_shiftOrMoveOnCondition 86 = .ok (.invokestatic 158, 3) := by decide +kernel
theorem d_Pr_shiftOrMoveOnCondition_89 : decode b_Pr_shiftOrMoveOnCondition 89 = .ok (.iload_n 2, 1) := by decide +kernel
theorem d_Pr_shiftOrMoveOnCondition_90 : decode b_Pr_shiftOrMoveOnCondition 90 = .ok (.iload_n 3, 1) := by decide +kernel
theorem d_Pr_shiftOrMoveOnCondition_91 : decode b_Pr_shiftOrMoveOnCondition 91 = .ok (.ishl, 1) := by decide +kernel
theorem d_Pr_shiftOrMoveOnCondition_92 : decode b_Pr_shiftOrMoveOnCondition 92 = .ok (.invokevirtual 161, 3) := by decide +kernel
theorem d_Pr_shiftOrMoveOnCondition_95 : decode b_Pr_shiftOrMoveOnCondition 95 = .ok (.ireturn, 1) := by decide +kernel
theorem d_Pr_shiftOrMoveOnCondition_96 : decode b_Pr_shiftOrMoveOnCondition 96 = .ok (.aload_n 0, 1) := by decide +kernel
theorem d_Pr_shiftOrMoveOnCondition_97 : decode b_Pr_shiftOrMoveOnCondition 97 = .ok (.iload_n 1, 1) := by decide +kernel
theorem d_Pr_shiftOrMoveOnCondition_98 : decode b_Pr_shiftOrMoveOnCondition 98 = .ok (.invokestatic 158, 3) := by decide +kernel
theorem d_Pr_shiftOrMoveOnCondition_101 : decode b_Pr_shiftOrMoveOnCondition 101 = .ok (.iload_n 2, 1) := by decide +kernel
theorem d_Pr_shiftOrMoveOnCondition_102 : decode b_Pr_shiftOrMoveOnCondition 102 = .ok (.iload_n 3, 1) := by decide +kernel
theorem d_Pr_shiftOrMoveOnCondition_103 : decode b_Pr_shiftOrMoveOnCondition 103 = .ok (.iushr, 1) := by decide +kernel
theorem d_Pr_shiftOrMoveOnCondition_104 : decode b_Pr_shiftOrMoveOnCondition 104 = .ok (.invokevirtual 161, 3) := by decide +kernel
theorem d_Pr_shiftOrMoveOnCondition_107 : decode b_Pr_shiftOrMoveOnCondition 107 = .ok (.ireturn, 1) := by decide +kernel
theorem d_Pr_shiftOrMoveOnCondition_108 : decode b_Pr_shiftOrMoveOnCondition 108 = .ok (.aload_n 0, 1) := by decide +kernel
theorem d_Pr_shiftOrMoveOnCondition_109 : decode b_Pr_shiftOrMoveOnCondition 109 = .ok (.iload_n 1, 1) := by decide +kernel
theorem d_Pr_shiftOrMoveOnCondition_110 : decode b_Pr_shiftOrMoveOnCondition 110 = .ok (.invokestatic 158, 3) := by decide +kernel
theorem d_Pr_shiftOrMoveOnCondition_113 : decode b_Pr_shiftOrMoveOnCondition 113 = .ok (.iload_n 2, 1) := by decide +kernel
theorem d_Pr_shiftOrMoveOnCondition_114 : decode b_Pr_shiftOrMoveOnCondition 114 = .ok (.iload_n 3, 1) := by decide +kernel
theorem d_Pr_shiftOrMoveOnCondition_115 : decode b_Pr_shiftOrMoveOnCondition 115 = .ok (.ishr, 1) := by decide +kernel
theorem d_Pr_shiftOrMoveOnCondition_116 : decode b_Pr_shiftOrMoveOnCondition 116 = .ok (.invokevirtual 161, 3) := by decide +kernel
theorem d_Pr_shiftOrMoveOnCondition_119 : decode b_Pr_shiftOrMoveOnCondition 119 = .ok (.ireturn, 1) := by decide +kernel
theorem d_Pr_shiftOrMoveOnCondition_120 : decode b_Pr_shiftOrMoveOnCondition 120 = .ok (.aload_n 0, 1) := by decide +kernel
theorem d_Pr_shiftOrMoveOnCondition_121 : decode b_Pr_shiftOrMoveOnCondition 121 = .ok (.iload_n 1, 1) := by decide +kernel
theorem d_Pr_shiftOrMoveOnCondition_122 : decode b_Pr_shiftOrMoveOnCondition 122 = .ok (.invokestatic 158, 3) := by decide +kernel
theorem d_Pr_shiftOrMoveOnCondition_125 : decode b_Pr_shiftOrMoveOnCondition 125 = .ok (.iload_n 2, 1) := by decide +kernel
theorem d_Pr_shiftOrMoveOnCondition_126 : decode b_Pr_shiftOrMoveOnCondition 126 = .ok (.iload 4, 2) := by decide +kernel
theorem d_Pr_shiftOrMoveOnCondition_128 : decode b_Pr_shiftOrMoveOnCondition 128 = .ok (.ishl, 1) := by decide +kernel
theorem d_Pr_shiftOrMoveOnCondition_129 : decode b_Pr_shiftOrMoveOnCondition 129 = .ok (.invokevirtual 161, 3) := by decide +kernel
theorem d_Pr_shiftOrMoveOnCondition_132 : decode b_Pr_shiftOrMoveOnCondition 132 = .ok (.ireturn, 1) := by decide +kernel
theorem d_Pr_shiftOrMoveOnCondition_133 : decode b_Pr_shiftOrMoveOnCondition 133 = .ok (.aload_n 0, 1) := by decide +kernel
theorem d_Pr_shiftOrMoveOnCondition_134 : decode b_Pr_shiftOrMoveOnCondition 134 = .ok (.iload_n 1, 1) := by decide +kernel
theorem d_Pr_shiftOrMoveOnCondition_135 : decode b_Pr_shiftOrMoveOnCondition 135 = .ok (.invokestatic 158, 3) := by decide +kernel
theorem d_Pr_shiftOrMoveOnCondition_138 : decode b_Pr_shiftOrMoveOnCondition 138 = .ok (.iload_n 2, 1) := by decide +kernel
theorem d_Pr_shiftOrMoveOnCondition_139 : decode b_Pr_shiftOrMoveOnCondition 139 = .ok (.iload 4, 2) := by decide +kernel
theorem d_Pr_shiftOrMoveOnCondition_141 : decode b_Pr_shiftOrMoveOnCondition 141 = .ok (.iushr, 1) := by decide +kernel
theorem d_Pr_shiftOrMoveOnCondition_142 : decode b_Pr_shiftOrMoveOnCondition 142 = .ok (.invokevirtual 161, 3) := by decide +kernel
theorem d_Pr_shiftOrMoveOnCondition_145 : decode b_Pr_shiftOrMoveOnCondition 145 = .ok (.ireturn, 1) := by decide +kernel
theorem d_Pr_shiftOrMoveOnCondition_146 : decode b_Pr_shiftOrMoveOnCondition 146 = .ok (.aload_n 0, 1) := by decide +kernel
theorem d_Pr_shiftOrMoveOnCondition_147 : decode b_Pr_shiftOrMoveOnCondition 147 = .ok (.iload_n 1, 1) := by decide +kernel
theorem d_Pr_shiftOrMoveOnCondition_148 : decode b_Pr_shiftOrMoveOnCondition 148 = .ok (.invokestatic 158, 3) := by decide +kernel
theorem d_Pr_shiftOrMoveOnCondition_151 : decode b_Pr_shiftOrMoveOnCondition 151 = .ok (.iload_n 2, 1) := by decide +kernel
theorem d_Pr_shiftOrMoveOnCondition_152 : decode b_Pr_shiftOrMoveOnCondition 152 = .ok (.iload 4, 2) := by decide +kernel
theorem d_Pr_shiftOrMoveOnCondition_154 : decode b_Pr_shiftOrMoveOnCondition 154 = .ok (.ishr, 1) := by decide +kernel
theorem d_Pr_shiftOrMoveOnCondition_155 : decode b_Pr_shiftOrMoveOnCondition 155 = .ok (.invokevirtual 161, 3) := by decide +kernel
theorem d_Pr_shiftOrMoveOnCondition_158 : decode b_Pr_shiftOrMoveOnCondition 158 = .ok (.ireturn, 1) := by decide +kernel
theorem d_Pr_shiftOrMoveOnCondition_159 : decode b_Pr_shiftOrMoveOnCondition 159 = .ok (.aload_n 0, 1) := by decide +kernel
theorem d_Pr_shiftOrMoveOnCondition_160 : decode b_Pr_shiftOrMoveOnCondition 160 = .ok (.iload_n 1, 1) := by decide +kernel
theorem d_Pr_shiftOrMoveOnCondition_161 : decode b_Pr_shiftOrMoveOnCondition 161 = .ok (.aload_n 0, 1) := by decide +kernel
theorem d_Pr_shiftOrMoveOnCondition_162 : decode b_Pr_shiftOrMoveOnCondition 162 = .ok (.getfield 25, 3) := by decide +kernel
theorem d_Pr_shiftOrMoveOnCondition_165 : decode b_Pr_shiftOrMoveOnCondition 165 = .ok (.iload_n 1, 1) := by decide +kernel
theorem d_Pr_shiftOrMoveOnCondition_166 : decode b_Pr_shiftOrMoveOnCondition 166 = .ok (.invokevirtual 164, 3) := by decide +kernel
theorem d_Pr_shiftOrMoveOnCondition_169 : decode b_Pr_shiftOrMoveOnCondition 169 = .ok (.invokevirtual 168, 3) := by decide +kernel
theorem d_Pr_shiftOrMoveOnCondition_172 : decode b_Pr_shiftOrMoveOnCondition 172 = .ok (.ireturn, 1) := by decide +kernel
theorem d_Pr_shiftOrMoveOnCondition_173 : decode b_Pr_shiftOrMoveOnCondition 173 = .ok (.iconst 3, 1) := by decide +kernel
theorem d_Pr_shiftOrMoveOnCondition_174 : decode b_Pr_shiftOrMoveOnCondition 174 = .ok (.ireturn, 1) := by decide +kernel
theorem d_Pr_leave_0 : decode b_Pr_leave 0 = .ok (.aload_n 0, 1) := by decide +kernel
theorem d_Pr_leave_1 : decode b_Pr_leave 1 = .ok (.dup, 1) := by decide +kernel
theorem d_Pr_leave_2 : decode b_Pr_leave 2 = .ok (.getfield 258, 3) := by decide +kernel
theorem d_Pr_leave_5 : decode b_Pr_leave 5 = .ok (.iconst 1, 1) := by decide +kernel
theorem d_Pr_leave_6 : decode b_Pr_leave 6 = .ok (.iadd, 1) := by decide +kernel
theorem d_Pr_leave_7 : decode b_Pr_leave 7 = .ok (.putfield 258, 3) := by decide +kernel
theorem d_Pr_leave_10 : decode b_Pr_leave 10 = .ok (.aload_n 0, 1) := by decide +kernel
theorem d_Pr_leave_11 : decode b_Pr_leave 11 = .ok (.aload_n 0, 1) := by decide +kernel
theorem d_Pr_leave_12 : decode b_Pr_leave 12 = .ok (.getfield 29, 3) := by decide +kernel
theorem d_Pr_leave_15 : decode b_Pr_leave 15 = .ok (.iload_n 1, 1) := by decide +kernel
theorem d_Pr_leave_16 : decode b_Pr_leave 16 = .ok (.iconst 1, 1) := by decide +kernel
theorem d_Pr_leave_17 : decode b_Pr_leave 17 = .ok (.invokevirtual 37, 3) := by decide +kernel
theorem d_Pr_leave_20 : decode b_Pr_leave 20 = .ok (.iconst (-1), 1) := by decide +kernel
theorem d_Pr_leave_21 : decode b_Pr_leave 21 = .ok (.ireturn, 1) := by decide +kernel
theorem d_Pr_jumpAndLinkRegister_0 : decode b_Pr_jumpAndLinkRegister 0 = .ok (.aload_n 0, 1) := by decide +kernel
theorem d_Pr_jumpAndLinkRegister_1 : decode b_Pr_jumpAndLinkRegister 1 = .ok (.getfield 68, 3) := by decide +kernel
theorem d_Pr_jumpAndLinkRegister_4 : decode b_Pr_jumpAndLinkRegister 4 = .ok (.ifCond .ne 14, 3) := by decide +kernel
theorem d_Pr_jumpAndLinkRegister_7 : decode b_Pr_jumpAndLinkRegister 7 = .ok (.iload_n 1, 1) := by decide +kernel
theorem d_Pr_jumpAndLinkRegister_8 : decode b_Pr_jumpAndLinkRegister 8 = .ok (.invokestatic 158, 3) := by decide +kernel
theorem d_Pr_jumpAndLinkRegister_11 : decode b_Pr_jumpAndLinkRegister 11 = .ok (.iload_n 1, 1) := by decide +kernel
theorem d_Pr_jumpAndLinkRegister_12 : decode b_Pr_jumpAndLinkRegister 12 = .ok (.invokestatic 83, 3) := by decide +kernel
theorem d_Pr_jumpAndLinkRegister_15 : decode b_Pr_jumpAndLinkRegister 15 = .ok (.if_icmp .ne 6, 3) := by decide +kernel
theorem d_Pr_jumpAndLinkRegister_18 : decode b_Pr_jumpAndLinkRegister 18 = .ok (.bipush 8, 2) := by decide +kernel
theorem d_Pr_jumpAndLinkRegister_20 : decode b_Pr_jumpAndLinkRegister 20 = .ok (.ireturn, 1) := by decide +kernel
theorem d_Pr_jumpAndLinkRegister_21 : decode b_Pr_jumpAndLinkRegister 21 = .ok (.aload_n 0, 1) := by decide +kernel
theorem d_Pr_jumpAndLinkRegister_22 : decode b_Pr_jumpAndLinkRegister 22 = .ok (.iload_n 1, 1) := by decide +kernel
theorem d_Pr_jumpAndLinkRegister_23 : decode b_Pr_jumpAndLinkRegister 23 = .ok (.invokestatic 158, 3) := by decide +kernel
theorem d_Pr_jumpAndLinkRegister_26 : decode b_Pr_jumpAndLinkRegister 26 = .ok (.aload_n 0, 1) := by decide +kernel
theorem d_Pr_jumpAndLinkRegister_27 : decode b_Pr_jumpAndLinkRegister 27 = .ok (.getfield 48, 3) := by decide +kernel
theorem d_Pr_jumpAndLinkRegister_30 : decode b_Pr_jumpAndLinkRegister 30 = .ok (.bipush 8, 2) := by decide +kernel
theorem d_Pr_jumpAndLinkRegister_32 : decode b_Pr_jumpAndLinkRegister 32 = .ok (.iadd, 1) := by decide +kernel
theorem d_Pr_jumpAndLinkRegister_33 : decode b_Pr_jumpAndLinkRegister 33 = .ok (.invokevirtual 245, 3) := by decide +kernel
theorem d_Pr_jumpAndLinkRegister_36 : decode b_Pr_jumpAndLinkRegister 36 = .ok (.aload_n 0, 1) := by decide +kernel
theorem d_Pr_jumpAndLinkRegister_37 : decode b_Pr_jumpAndLinkRegister 37 = .ok (.aload_n 0, 1) := by decide +kernel
theorem d_Pr_jumpAndLinkRegister_38 : decode b_Pr_jumpAndLinkRegister 38 = .ok (.getfield 9, 3) := by decide +kernel
theorem d_Pr_jumpAndLinkRegister_41 : decode b_Pr_jumpAndLinkRegister 41 = .ok (.iload_n 1, 1) := by decide +kernel
theorem d_Pr_jumpAndLinkRegister_42 : decode b_Pr_jumpAndLinkRegister 42 = .ok (.invokestatic 83, 3) := by decide +kernel
theorem d_Pr_jumpAndLinkRegister_45 : decode b_Pr_jumpAndLinkRegister 45 = .ok (.iaload, 1) := by decide +kernel
theorem d_Pr_jumpAndLinkRegister_46 : decode b_Pr_jumpAndLinkRegister 46 = .ok (.invokevirtual 172, 3) := by decide +kernel
theorem d_Pr_jumpAndLinkRegister_49 : decode b_Pr_jumpAndLinkRegister 49 = .ok (.ireturn, 1) := by decide +kernel
theorem d_Pr_call_0 : decode b_Pr_call 0 = .ok (.aload_n 0, 1) := by decide +kernel
theorem d_Pr_call_1 : decode b_Pr_call 1 = .ok (.iload_n 1, 1) := by decide +kernel
theorem d_Pr_call_2 : decode b_Pr_call 2 = .ok (.bipush 6, 2) := by decide +kernel
theorem d_Pr_call_4 : decode b_Pr_call 4 = .ok (.iushr, 1) := by decide +kernel
theorem d_Pr_call_5 : decode b_Pr_call 5 = .ok (.ldc 181, 2) := by decide +kernel
theorem d_Pr_call_7 : decode b_Pr_call 7 = .ok (.iand, 1) := by decide +kernel
theorem d_Pr_call_8 : decode b_Pr_call 8 = .ok (.putfield 182, 3) := by decide +kernel
theorem d_Pr_call_11 : decode b_Pr_call 11 = .ok (.iload_n 2, 1) := by decide +kernel
theorem d_Pr_call_12 : decode b_Pr_call 12 = .ok (.ireturn, 1) := by decide +kernel
theorem d_Pr_jumpOrMoveOrCall_0 : decode b_Pr_jumpOrMoveOrCall 0 = .ok (.iload_n 1, 1) := by decide +kernel
theorem d_Pr_jumpOrMoveOrCall_1 : decode b_Pr_jumpOrMoveOrCall 1 = .ok (.invokestatic 136, 3) := by decide +kernel
theorem d_Pr_jumpOrMoveOrCall_4 : decode b_Pr_jumpOrMoveOrCall 4 = .ok (.tableswitch 144 8 15 #[48, 74, 80, 103, 126, 134, 144, 142], 48) := by decide +kernel
theorem d_Pr_jumpOrMoveOrCall_52 : decode b_Pr_jumpOrMoveOrCall 52 = .ok (.aload_n 0, 1) := by decide +kernel
theorem d_Pr_jumpOrMoveOrCall_53 : decode b_Pr_jumpOrMoveOrCall 53 = .ok (.getfield 68, 3) := by decide +kernel
theorem d_Pr_jumpOrMoveOrCall_56 : decode b_Pr_jumpOrMoveOrCall 56 = .ok (.ifCond .eq 8, 3) := by decide +kernel
theorem d_Pr_jumpOrMoveOrCall_59 : decode b_Pr_jumpOrMoveOrCall 59 = .ok (.bipush 8, 2) := by decide +kernel
theorem d_Pr_jumpOrMoveOrCall_61 : decode b_Pr_jumpOrMoveOrCall 61 = .ok (.goto 16, 3) := by decide +kernel
theorem d_Pr_jumpOrMoveOrCall_64 : decode b_Pr_jumpOrMoveOrCall 64 = .ok (.aload_n 0, 1) := by decide +kernel
theorem d_Pr_jumpOrMoveOrCall_65 : decode b_Pr_jumpOrMoveOrCall 65 = .ok (.aload_n 0, 1) := by decide +kernel
theorem d_Pr_jumpOrMoveOrCall_66 : decode b_Pr_jumpOrMoveOrCall 66 = .ok (.getfield 9, 3) := by decide +kernel
theorem d_Pr_jumpOrMoveOrCall_69 : decode b_Pr_jumpOrMoveOrCall 69 = .ok (.iload_n 1, 1) := by decide +kernel
theorem d_Pr_jumpOrMoveOrCall_70 : decode b_Pr_jumpOrMoveOrCall 70 = .ok (.invokestatic 83, 3) := by decide +kernel
theorem d_Pr_jumpOrMoveOrCall_73 : decode b_Pr_jumpOrMoveOrCall 73 = .ok (.iaload, 1) := by decide +kernel
theorem d_Pr_jumpOrMoveOrCall_74 : decode b_Pr_jumpOrMoveOrCall 74 = .ok (.invokevirtual 172, 3) := by decide +kernel
theorem d_Pr_jumpOrMoveOrCall_77 : decode b_Pr_jumpOrMoveOrCall 77 = .ok (.ireturn, 1) := by decide +kernel
theorem d_Pr_jumpOrMoveOrCall_78 : decode b_Pr_jumpOrMoveOrCall 78 = .ok (.aload_n 0, 1) := by decide +kernel
theorem d_Pr_jumpOrMoveOrCall_79 : decode b_Pr_jumpOrMoveOrCall 79 = .ok (.iload_n 1, 1) := by decide +kernel
theorem d_Pr_jumpOrMoveOrCall_80 : decode b_Pr_jumpOrMoveOrCall 80 = .ok (.invokevirtual 175, 3) := by decide +kernel
theorem d_Pr_jumpOrMoveOrCall_83 : decode b_Pr_jumpOrMoveOrCall 83 = .ok (.ireturn, 1) := by decide +kernel
theorem d_Pr_jumpOrMoveOrCall_84 : decode b_Pr_jumpOrMoveOrCall 84 = .ok (.aload_n 0, 1) := by decide +kernel
theorem d_Pr_jumpOrMoveOrCall_85 : decode b_Pr_jumpOrMoveOrCall 85 = .ok (.iload_n 1, 1) := by decide +kernel
theorem d_Pr_jumpOrMoveOrCall_86 : decode b_Pr_jumpOrMoveOrCall 86 = .ok (.aload_n 0, 1) := by decide +kernel
theorem d_Pr_jumpOrMoveOrCall_87 : decode b_Pr_jumpOrMoveOrCall 87 = .ok (.getfield 9, 3) := by decide +kernel
theorem d_Pr_jumpOrMoveOrCall_90 : decode b_Pr_jumpOrMoveOrCall 90 = .ok (.iload_n 1, 1) := by decide +kernel
theorem d_Pr_jumpOrMoveOrCall_91 : decode b_Pr_jumpOrMoveOrCall 91 = .ok (.invokestatic 89, 3) := by decide +kernel
theorem d_Pr_jumpOrMoveOrCall_94 : decode b_Pr_jumpOrMoveOrCall 94 = .ok (.iaload, 1) := by decide +kernel
theorem d_Pr_jumpOrMoveOrCall_95 : decode b_Pr_jumpOrMoveOrCall 95 = .ok (.ifCond .ne 7, 3) := by decide +kernel
theorem d_Pr_jumpOrMoveOrCall_98 : decode b_Pr_jumpOrMoveOrCall 98 = .ok (.iconst 1, 1) := by decide +kernel
theorem d_Pr_jumpOrMoveOrCall_99 : decode b_Pr_jumpOrMoveOrCall 99 = .ok (.goto 4, 3) := by decide +kernel
theorem d_Pr_jumpOrMoveOrCall_102 : decode b_Pr_jumpOrMoveOrCall 102 = .ok (.iconst 0, 1) := by decide +kernel
theorem d_Pr_jumpOrMoveOrCall_103 : decode b_Pr_jumpOrMoveOrCall 103 = .ok (.invokevirtual 168, 3) := by decide +kernel
theorem d_Pr_jumpOrMoveOrCall_106 : decode b_Pr_jumpOrMoveOrCall 106 = .ok (.ireturn, 1) := by decide +kernel
theorem d_Pr_jumpOrMoveOrCall_107 : decode b_Pr_jumpOrMoveOrCall 107 = .ok (.aload_n 0, 1) := by decide +kernel
theorem d_Pr_jumpOrMoveOrCall_108 : decode b_Pr_jumpOrMoveOrCall 108 = .ok (.iload_n 1, 1) := by decide +kernel
theorem d_Pr_jumpOrMoveOrCall_109 : decode b_Pr_jumpOrMoveOrCall 109 = .ok (.aload_n 0, 1) := by decide +kernel
theorem d_Pr_jumpOrMoveOrCall_110 : decode b_Pr_jumpOrMoveOrCall 110 = .ok (.getfield 9, 3) := by decide +kernel
theorem d_Pr_jumpOrMoveOrCall_113 : decode b_Pr_jumpOrMoveOrCall 113 = .ok (.iload_n 1, 1) := by decide +kernel
theorem d_Pr_jumpOrMoveOrCall_114 : decode b_Pr_jumpOrMoveOrCall 114 = .ok (.invokestatic 89, 3) := by decide +kernel
theorem d_Pr_jumpOrMoveOrCall_117 : decode b_Pr_jumpOrMoveOrCall 117 = .ok (.iaload, 1) := by decide +kernel
theorem d_Pr_jumpOrMoveOrCall_118 : decode b_Pr_jumpOrMoveOrCall 118 = .ok (.ifCond .eq 7, 3) := by decide +kernel
theorem d_Pr_jumpOrMoveOrCall_121 : decode b_Pr_jumpOrMoveOrCall 121 = .ok (.iconst 1, 1) := by decide +kernel
theorem d_Pr_jumpOrMoveOrCall_122 : decode b_Pr_jumpOrMoveOrCall 122 = .ok (.goto 4, 3) := by decide +kernel
theorem d_Pr_jumpOrMoveOrCall_125 : decode b_Pr_jumpOrMoveOrCall 125 = .ok (.iconst 0, 1) := by decide +kernel
theorem d_Pr_jumpOrMoveOrCall_126 : decode b_Pr_jumpOrMoveOrCall 126 = .ok (.invokevirtual 168, 3) := by decide +kernel
theorem d_Pr_jumpOrMoveOrCall_129 : decode b_Pr_jumpOrMoveOrCall 129 = .ok (.ireturn, 1) := by decide +kernel
theorem d_Pr_jumpOrMoveOrCall_130 : decode b_Pr_jumpOrMoveOrCall 130 = .ok (.aload_n 0, 1) := by decide +kernel
theorem d_Pr_jumpOrMoveOrCall_131 : decode b_Pr_jumpOrMoveOrCall 131 = .ok (.iload_n 1, 1) := by decide +kernel
theorem d_Pr_jumpOrMoveOrCall_132 : decode b_Pr_jumpOrMoveOrCall 132 = .ok (.bipush 7, 2) := by decide +kernel
theorem d_Pr_jumpOrMoveOrCall_134 : decode b_Pr_jumpOrMoveOrCall 134 = .ok (.invokevirtual 178, 3) := by decide +kernel
theorem d_Pr_jumpOrMoveOrCall_137 : decode b_Pr_jumpOrMoveOrCall 137 = .ok (.ireturn, 1) := by decide +kernel
theorem d_Pr_jumpOrMoveOrCall_138 : decode b_Pr_jumpOrMoveOrCall 138 = .ok (.aload_n 0, 1) := by decide +kernel
theorem d_Pr_jumpOrMoveOrCall_139 : decode b_Pr_jumpOrMoveOrCall 139 = .ok (.iload_n 1, 1) := by decide +kernel
theorem d_Pr_jumpOrMoveOrCall_140 : decode b_Pr_jumpOrMoveOrCall 140 = .ok (.bipush 6, 2) := by decide +kernel
theorem d_Pr_jumpOrMoveOrCall_142 : decode b_Pr_jumpOrMoveOrCall 142 = .ok (.invokevirtual 178, 3) := by decide +kernel
theorem d_Pr_jumpOrMoveOrCall_145 : decode b_Pr_jumpOrMoveOrCall 145 = .ok (.ireturn, 1) := by decide +kernel
theorem d_Pr_jumpOrMoveOrCall_146 : decode b_Pr_jumpOrMoveOrCall 146 = .ok (.iconst 0, 1) := by decide +kernel
theorem d_Pr_jumpOrMoveOrCall_147 : decode b_Pr_jumpOrMoveOrCall 147 = .ok (.ireturn, 1) := by decide +kernel
theorem d_Pr_jumpOrMoveOrCall_148 : decode b_Pr_jumpOrMoveOrCall 148 = .ok (.iconst 3, 1) := by decide +kernel
theorem d_Pr_jumpOrMoveOrCall_149 : decode b_Pr_jumpOrMoveOrCall 149 = .ok (.ireturn, 1) := by decide +kernel
theorem d_Pr_moveHiLo_0 : decode b_Pr_moveHiLo 0 = .ok (.iload_n 1, 1) := by decide +kernel
theorem d_Pr_moveHiLo_1 : decode b_Pr_moveHiLo 1 = .ok (.invokestatic 136, 3) := by decide +kernel
theorem d_Pr_moveHiLo_4 : decode b_Pr_moveHiLo 4 = .ok (.tableswitch 130 16 19 #[32, 94, 63, 112], 32) := by decide +kernel
theorem d_Pr_moveHiLo_36 : decode b_Pr_moveHiLo 36 = .ok (.aload_n 0, 1) := by decide +kernel
theorem d_Pr_moveHiLo_37 : decode b_Pr_moveHiLo 37 = .ok (.getfield 18, 3) := by decide +kernel
theorem d_Pr_moveHiLo_40 : decode b_Pr_moveHiLo 40 = .ok (.getfield 185, 3) := by decide +kernel
theorem d_Pr_moveHiLo_43 : decode b_Pr_moveHiLo 43 = .ok (.ifCond .eq 21, 3) := by decide +kernel
theorem d_Pr_moveHiLo_46 : decode b_Pr_moveHiLo 46 = .ok (.aload_n 0, 1) := by decide +kernel
theorem d_Pr_moveHiLo_47 : decode b_Pr_moveHiLo 47 = .ok (.iload_n 1, 1) := by decide +kernel
theorem d_Pr_moveHiLo_48 : decode b_Pr_moveHiLo 48 = .ok (.invokestatic 158, 3) := by decide +kernel
theorem d_Pr_moveHiLo_51 : decode b_Pr_moveHiLo 51 = .ok (.aload_n 0, 1) := by decide +kernel
theorem d_Pr_moveHiLo_52 : decode b_Pr_moveHiLo 52 = .ok (.getfield 18, 3) := by decide +kernel
theorem d_Pr_moveHiLo_55 : decode b_Pr_moveHiLo 55 = .ok (.getfield 188, 3) := by decide +kernel
theorem d_Pr_moveHiLo_58 : decode b_Pr_moveHiLo 58 = .ok (.invokevirtual 161, 3) := by decide +kernel
theorem d_Pr_moveHiLo_61 : decode b_Pr_moveHiLo 61 = .ok (.goto 5, 3) := by decide +kernel
theorem d_Pr_moveHiLo_64 : decode b_Pr_moveHiLo 64 = .ok (.bipush 8, 2) := by decide +kernel
theorem d_Pr_moveHiLo_66 : decode b_Pr_moveHiLo 66 = .ok (.ireturn, 1) := by decide +kernel
theorem d_Pr_moveHiLo_67 : decode b_Pr_moveHiLo 67 = .ok (.aload_n 0, 1) := by decide +kernel
theorem d_Pr_moveHiLo_68 : decode b_Pr_moveHiLo 68 = .ok (.getfield 18, 3) := by decide +kernel
theorem d_Pr_moveHiLo_71 : decode b_Pr_moveHiLo 71 = .ok (.getfield 191, 3) := by decide +kernel
theorem d_Pr_moveHiLo_74 : decode b_Pr_moveHiLo 74 = .ok (.ifCond .eq 21, 3) := by decide +kernel
theorem d_Pr_moveHiLo_77 : decode b_Pr_moveHiLo 77 = .ok (.aload_n 0, 1) := by decide +kernel
theorem d_Pr_moveHiLo_78 : decode b_Pr_moveHiLo 78 = .ok (.iload_n 1, 1) := by decide +kernel
theorem d_Pr_moveHiLo_79 : decode b_Pr_moveHiLo 79 = .ok (.invokestatic 158, 3) := by decide +kernel
theorem d_Pr_moveHiLo_82 : decode b_Pr_moveHiLo 82 = .ok (.aload_n 0, 1) := by decide +kernel
theorem d_Pr_moveHiLo_83 : decode b_Pr_moveHiLo 83 = .ok (.getfield 18, 3) := by decide +kernel
theorem d_Pr_moveHiLo_86 : decode b_Pr_moveHiLo 86 = .ok (.getfield 194, 3) := by decide +kernel
theorem d_Pr_moveHiLo_89 : decode b_Pr_moveHiLo 89 = .ok (.invokevirtual 161, 3) := by decide +kernel
theorem d_Pr_moveHiLo_92 : decode b_Pr_moveHiLo 92 = .ok (.goto 5, 3) := by decide +kernel
theorem d_Pr_moveHiLo_95 : decode b_Pr_moveHiLo 95 = .ok (.bipush 8, 2) := by decide +kernel
theorem d_Pr_moveHiLo_97 : decode b_Pr_moveHiLo 97 = .ok (.ireturn, 1) := by decide +kernel
theorem d_Pr_moveHiLo_98 : decode b_Pr_moveHiLo 98 = .ok (.aload_n 0, 1) := by decide +kernel
theorem d_Pr_moveHiLo_99 : decode b_Pr_moveHiLo 99 = .ok (.getfield 18, 3) := by decide +kernel
theorem d_Pr_moveHiLo_102 : decode b_Pr_moveHiLo 102 = .ok (.aload_n 0, 1) := by decide +kernel
theorem d_Pr_moveHiLo_103 : decode b_Pr_moveHiLo 103 = .ok (.getfield 9, 3) := by decide +kernel
theorem d_Pr_moveHiLo_106 : decode b_Pr_moveHiLo 106 = .ok (.iload_n 1, 1) := by decide +kernel
theorem d_Pr_moveHiLo_107 : decode b_Pr_moveHiLo 107 = .ok (.invokestatic 83, 3) := by decide +kernel
theorem d_Pr_moveHiLo_110 : decode b_Pr_moveHiLo 110 = .ok (.iaload, 1) := by decide +kernel
theorem d_Pr_moveHiLo_111 : decode b_Pr_moveHiLo 111 = .ok (.invokevirtual 197, 3) := by decide +kernel
theorem d_Pr_moveHiLo_114 : decode b_Pr_moveHiLo 114 = .ok (.iconst 0, 1) := by decide +kernel
theorem d_Pr_moveHiLo_115 : decode b_Pr_moveHiLo 115 = .ok (.ireturn, 1) := by decide +kernel
theorem d_Pr_moveHiLo_116 : decode b_Pr_moveHiLo 116 = .ok (.aload_n 0, 1) := by decide +kernel
theorem d_Pr_moveHiLo_117 : decode b_Pr_moveHiLo 117 = .ok (.getfield 18, 3) := by decide +kernel
theorem d_Pr_moveHiLo_120 : decode b_Pr_moveHiLo 120 = .ok (.aload_n 0, 1) := by decide +kernel
theorem d_Pr_moveHiLo_121 : decode b_Pr_moveHiLo 121 = .ok (.getfield 9, 3) := by decide +kernel
theorem d_Pr_moveHiLo_124 : decode b_Pr_moveHiLo 124 = .ok (.iload_n 1, 1) := by decide +kernel
theorem d_Pr_moveHiLo_125 : decode b_Pr_moveHiLo 125 = .ok (.invokestatic 83, 3) := by decide +kernel
theorem d_Pr_moveHiLo_128 : decode b_Pr_moveHiLo 128 = .ok (.iaload, 1) := by decide +kernel
theorem d_Pr_moveHiLo_129 : decode b_Pr_moveHiLo 129 = .ok (.invokevirtual 201, 3) := by decide +kernel
theorem d_Pr_moveHiLo_132 : decode b_Pr_moveHiLo 132 = .ok (.iconst 0, 1) := by decide +kernel
theorem d_Pr_moveHiLo_133 : decode b_Pr_moveHiLo 133 = .ok (.ireturn, 1) := by decide +kernel
theorem d_Pr_moveHiLo_134 : decode b_Pr_moveHiLo 134 = .ok (.iconst 3, 1) := by decide +kernel
theorem d_Pr_moveHiLo_135 : decode b_Pr_moveHiLo 135 = .ok (.ireturn, 1) := by decide +kernel
theorem d_Pr_multiplyOrDivide_0 : decode b_Pr_multiplyOrDivide 0 = .ok (.aload_n 0, 1) := by decide +kernel
theorem d_Pr_multiplyOrDivide_1 : decode b_Pr_multiplyOrDivide 1 = .ok (.getfield 9, 3) := by decide +kernel
theorem d_Pr_multiplyOrDivide_4 : decode b_Pr_multiplyOrDivide 4 = .ok (.iload_n 1, 1) := by decide +kernel
theorem d_Pr_multiplyOrDivide_5 : decode b_Pr_multiplyOrDivide 5 = .ok (.invokestatic 83, 3) := by decide +kernel
theorem d_Pr_multiplyOrDivide_8 : decode b_Pr_multiplyOrDivide 8 = .ok (.iaload, 1) := by decide +kernel
theorem d_Pr_multiplyOrDivide_9 : decode b_Pr_multiplyOrDivide 9 = .ok (.istore_n 2, 1) := by decide +kernel
theorem d_Pr_multiplyOrDivide_10 : decode b_Pr_multiplyOrDivide 10 = .ok (.aload_n 0, 1) := by decide +kernel
theorem d_Pr_multiplyOrDivide_11 : decode b_Pr_multiplyOrDivide 11 = .ok (.getfield 9, 3) := by decide +kernel
theorem d_Pr_multiplyOrDivide_14 : decode b_Pr_multiplyOrDivide 14 = .ok (.iload_n 1, 1) := by decide +kernel
theorem d_Pr_multiplyOrDivide_15 : decode b_Pr_multiplyOrDivide 15 = .ok (.invokestatic 89, 3) := by decide +kernel
theorem d_Pr_multiplyOrDivide_18 : decode b_Pr_multiplyOrDivide 18 = .ok (.iaload, 1) := by decide +kernel
theorem d_Pr_multiplyOrDivide_19 : decode b_Pr_multiplyOrDivide 19 = .ok (.istore_n 3, 1) := by decide +kernel
theorem d_Pr_multiplyOrDivide_20 : decode b_Pr_multiplyOrDivide 20 = .ok (.iload_n 1, 1) := by decide +kernel
theorem d_Pr_multiplyOrDivide_21 : decode b_Pr_multiplyOrDivide 21 = .ok (.invokestatic 136, 3) := by decide +kernel
theorem d_Pr_multiplyOrDivide_24 : decode b_Pr_multiplyOrDivide 24 = .ok (.tableswitch 94 24 27 #[32, 46, 64, 77], 32) := by decide +kernel
theorem d_Pr_multiplyOrDivide_56 : decode b_Pr_multiplyOrDivide 56 = .ok (.aload_n 0, 1) := by decide +kernel
theorem d_Pr_multiplyOrDivide_57 : decode b_Pr_multiplyOrDivide 57 = .ok (.getfield 18, 3) := by decide +kernel
theorem d_Pr_multiplyOrDivide_60 : decode b_Pr_multiplyOrDivide 60 = .ok (.iload_n 2, 1) := by decide +kernel
theorem d_Pr_multiplyOrDivide_61 : decode b_Pr_multiplyOrDivide 61 = .ok (.i2l, 1) := by decide +kernel
theorem d_Pr_multiplyOrDivide_62 : decode b_Pr_multiplyOrDivide 62 = .ok (.iload_n 3, 1) := by decide +kernel
theorem d_Pr_multiplyOrDivide_63 : decode b_Pr_multiplyOrDivide 63 = .ok (.i2l, 1) := by decide +kernel
theorem d_Pr_multiplyOrDivide_64 : decode b_Pr_multiplyOrDivide 64 = .ok (.lmul, 1) := by decide +kernel
theorem d_Pr_multiplyOrDivide_65 : decode b_Pr_multiplyOrDivide 65 = .ok (.invokevirtual 204, 3) := by decide +kernel
theorem d_Pr_multiplyOrDivide_68 : decode b_Pr_multiplyOrDivide 68 = .ok (.iconst 0, 1) := by decide +kernel
theorem d_Pr_multiplyOrDivide_69 : decode b_Pr_multiplyOrDivide 69 = .ok (.ireturn, 1) := by decide +kernel
theorem d_Pr_multiplyOrDivide_70 : decode b_Pr_multiplyOrDivide 70 = .ok (.aload_n 0, 1) := by decide +kernel
theorem d_Pr_multiplyOrDivide_71 : decode b_Pr_multiplyOrDivide 71 = .ok (.getfield 18, 3) := by decide +kernel
theorem d_Pr_multiplyOrDivide_74 : decode b_Pr_multiplyOrDivide 74 = .ok (.iload_n 2, 1) := by decide +kernel
theorem d_Pr_multiplyOrDivide_75 : decode b_Pr_multiplyOrDivide 75 = .ok (.invokestatic 208, 3) := by decide +kernel
theorem d_Pr_multiplyOrDivide_78 : decode b_Pr_multiplyOrDivide 78 = .ok (.iload_n 3, 1) := by decide +kernel
theorem d_Pr_multiplyOrDivide_79 : decode b_Pr_multiplyOrDivide 79 = .ok (.invokestatic 208, 3) := by decide +kernel
theorem d_Pr_multiplyOrDivide_82 : decode b_Pr_multiplyOrDivide 82 = .ok (.lmul, 1) := by decide +kernel
theorem d_Pr_multiplyOrDivide_83 : decode b_Pr_multiplyOrDivide 83 = .ok (.invokevirtual 204, 3) := by decide +kernel
theorem d_Pr_multiplyOrDivide_86 : decode b_Pr_multiplyOrDivide 86 = .ok (.iconst 0, 1) := by decide +kernel
theorem d_Pr_multiplyOrDivide_87 : decode b_Pr_multiplyOrDivide 87 = .ok (.ireturn, 1) := by decide +kernel
theorem d_Pr_multiplyOrDivide_88 : decode b_Pr_multiplyOrDivide 88 = .ok (.aload_n 0, 1) := by decide +kernel
theorem d_Pr_multiplyOrDivide_89 : decode b_Pr_multiplyOrDivide 89 = .ok (.getfield 18, 3) := by decide +kernel
theorem d_Pr_multiplyOrDivide_92 : decode b_Pr_multiplyOrDivide 92 = .ok (.iload_n 2, 1) := by decide +kernel
theorem d_Pr_multiplyOrDivide_93 : decode b_Pr_multiplyOrDivide 93 = .ok (.i2l, 1) := by decide +kernel
theorem d_Pr_multiplyOrDivide_94 : decode b_Pr_multiplyOrDivide 94 = .ok (.iload_n 3, 1) := by decide +kernel
theorem d_Pr_multiplyOrDivide_95 : decode b_Pr_multiplyOrDivide 95 = .ok (.i2l, 1) := by decide +kernel
theorem d_Pr_multiplyOrDivide_96 : decode b_Pr_multiplyOrDivide 96 = .ok (.invokevirtual 212, 3) := by decide +kernel
theorem d_Pr_multiplyOrDivide_99 : decode b_Pr_multiplyOrDivide 99 = .ok (.iconst 0, 1) := by decide +kernel
theorem d_Pr_multiplyOrDivide_100 : decode b_Pr_multiplyOrDivide 100 = .ok (.ireturn, 1) := by decide +kernel
theorem d_Pr_multiplyOrDivide_101 : decode b_Pr_multiplyOrDivide 101 = .ok (.aload_n 0, 1) := by decide +kernel
theorem d_Pr_multiplyOrDivide_102 : decode b_Pr_multiplyOrDivide 102 = .ok (.getfield 18, 3) := by decide +kernel
theorem d_Pr_multiplyOrDivide_105 : decode b_Pr_multiplyOrDivide 105 = .ok (.iload_n 2, 1) := by decide +kernel
theorem d_Pr_multiplyOrDivide_106 : decode b_Pr_multiplyOrDivide 106 = .ok (.invokestatic 208, 3) := by decide +kernel
theorem d_Pr_multiplyOrDivide_109 : decode b_Pr_multiplyOrDivide 109 = .ok (.iload_n 3, 1) := by decide +kernel
theorem d_Pr_multiplyOrDivide_110 : decode b_Pr_multiplyOrDivide 110 = .ok (.invokestatic 208, 3) := by decide +kernel
theorem d_Pr_multiplyOrDivide_113 : decode b_Pr_multiplyOrDivide 113 = .ok (.invokevirtual 212, 3) := by decide +kernel
theorem d_Pr_multiplyOrDivide_116 : decode b_Pr_multiplyOrDivide 116 = .ok (.iconst 0, 1) := by decide +kernel
theorem d_Pr_multiplyOrDivide_117 : decode b_Pr_multiplyOrDivide 117 = .ok (.ireturn, 1) := by decide +kernel
theorem d_Pr_multiplyOrDivide_118 : decode b_Pr_multiplyOrDivide 118 = .ok (.iconst 3, 1) := by decide +kernel
theorem d_Pr_multiplyOrDivide_119 : decode b_Pr_multiplyOrDivide 119 = .ok (.ireturn, 1) := by decide +kernel
theorem d_Pr_exactResult_0 : decode b_Pr_exactResult 0 = .ok (.lload_n 2, 1) := by decide +kernel
theorem d_Pr_exactResult_1 : decode b_Pr_exactResult 1 = .ok (.lload_n 2, 1) := by decide +kernel
theorem d_Pr_exactResult_2 : decode b_Pr_exactResult 2 = .ok (.l2i, 1) := by decide +kernel
theorem d_Pr_exactResult_3 : decode b_Pr_exactResult 3 = .ok (.i2l, 1) := by decide +kernel
theorem d_Pr_exactResult_4 : decode b_Pr_exactResult 4 = .ok (.lcmp, 1) := by decide +kernel
theorem d_Pr_exactResult_5 : decode b_Pr_exactResult 5 = .ok (.ifCond .eq 5, 3) := by decide +kernel
theorem d_Pr_exactResult_8 : decode b_Pr_exactResult 8 = .ok (.iconst 4, 1) := by decide +kernel
theorem d_Pr_exactResult_9 : decode b_Pr_exactResult 9 = .ok (.ireturn, 1) := by decide +kernel
theorem d_Pr_exactResult_10 : decode b_Pr_exactResult 10 = .ok (.aload_n 0, 1) := by decide +kernel
theorem d_Pr_exactResult_11 : decode b_Pr_exactResult 11 = .ok (.iload_n 1, 1) := by decide +kernel
theorem d_Pr_exactResult_12 : decode b_Pr_exactResult 12 = .ok (.lload_n 2, 1) := by decide +kernel
theorem d_Pr_exactResult_13 : decode b_Pr_exactResult 13 = .ok (.l2i, 1) := by decide +kernel
theorem d_Pr_exactResult_14 : decode b_Pr_exactResult 14 = .ok (.invokevirtual 161, 3) := by decide +kernel
theorem d_Pr_exactResult_17 : decode b_Pr_exactResult 17 = .ok (.ireturn, 1) := by decide +kernel
theorem d_Pr_arithmetic_0 : decode b_Pr_arithmetic 0 = .ok (.aload_n 0, 1) := by decide +kernel
theorem d_Pr_arithmetic_1 : decode b_Pr_arithmetic 1 = .ok (.getfield 9, 3) := by decide +kernel
theorem d_Pr_arithmetic_4 : decode b_Pr_arithmetic 4 = .ok (.iload_n 1, 1) := by decide +kernel
theorem d_Pr_arithmetic_5 : decode b_Pr_arithmetic 5 = .ok (.invokestatic 83, 3) := by decide +kernel
theorem d_Pr_arithmetic_8 : decode b_Pr_arithmetic 8 = .ok (.iaload, 1) := by decide +kernel
theorem d_Pr_arithmetic_9 : decode b_Pr_arithmetic 9 = .ok (.istore_n 2, 1) := by decide +kernel
theorem d_Pr_arithmetic_10 : decode b_Pr_arithmetic 10 = .ok (.aload_n 0, 1) := by decide +kernel
theorem d_Pr_arithmetic_11 : decode b_Pr_arithmetic 11 = .ok (.getfield 9, 3) := by decide +kernel
theorem d_Pr_arithmetic_14 : decode b_Pr_arithmetic 14 = .ok (.iload_n 1, 1) := by decide +kernel
theorem d_Pr_arithmetic_15 : decode b_Pr_arithmetic 15 = .ok (.invokestatic 89, 3) := by decide +kernel
theorem d_Pr_arithmetic_18 : decode b_Pr_arithmetic 18 = .ok (.iaload, 1) := by decide +kernel
theorem d_Pr_arithmetic_19 : decode b_Pr_arithmetic 19 = .ok (.istore_n 3, 1) := by decide +kernel
theorem d_Pr_arithmetic_20 : decode b_Pr_arithmetic 20 = .ok (.iload_n 1, 1) := by decide +kernel
theorem d_Pr_arithmetic_21 : decode b_Pr_arithmetic 21 = .ok (.invokestatic 136, 3) := by decide +kernel
theorem d_Pr_arithmetic_24 : decode b_Pr_arithmetic 24 = .ok (.tableswitch 211 32 43 #[64, 78, 90, 104, 116, 128, 140, 152, 211, 211, 166, 185], 64) := by decide +kernel
theorem d_Pr_arithmetic_88 : decode b_Pr_arithmetic 88 = .ok (.aload_n 0, 1) := by decide +kernel
theorem d_Pr_arithmetic_89 : decode b_Pr_arithmetic 89 = .ok (.iload_n 1, 1) := by decide +kernel
theorem d_Pr_arithmetic_90 : decode b_Pr_arithmetic 90 = .ok (.invokestatic 158, 3) := by decide +kernel
theorem d_Pr_arithmetic_93 : decode b_Pr_arithmetic 93 = .ok (.iload_n 2, 1) := by decide +kernel
theorem d_Pr_arithmetic_94 : decode b_Pr_arithmetic 94 = .ok (.i2l, 1) := by decide +kernel
theorem d_Pr_arithmetic_95 : decode b_Pr_arithmetic 95 = .ok (.iload_n 3, 1) := by decide +kernel
theorem d_Pr_arithmetic_96 : decode b_Pr_arithmetic 96 = .ok (.i2l, 1) := by decide +kernel
theorem d_Pr_arithmetic_97 : decode b_Pr_arithmetic 97 = .ok (.ladd, 1) := by decide +kernel
theorem d_Pr_arithmetic_98 : decode b_Pr_arithmetic 98 = .ok (.invokevirtual 216, 3) := by decide +kernel
theorem d_Pr_arithmetic_101 : decode b_Pr_arithmetic 101 = .ok (.ireturn, 1) := by decide +kernel
theorem d_Pr_arithmetic_102 : decode b_Pr_arithmetic 102 = .ok (.aload_n 0, 1) := by decide +kernel
theorem d_Pr_arithmetic_103 : decode b_Pr_arithmetic 103 = .ok (.iload_n 1, 1) := by decide +kernel
theorem d_Pr_arithmetic_104 : decode b_Pr_arithmetic 104 = .ok (.invokestatic 158, 3) := by decide +kernel
theorem d_Pr_arithmetic_107 : decode b_Pr_arithmetic 107 = .ok (.iload_n 2, 1) := by decide +kernel
theorem d_Pr_arithmetic_108 : decode b_Pr_arithmetic 108 = .ok (.iload_n 3, 1) := by decide +kernel
theorem d_Pr_arithmetic_109 : decode b_Pr_arithmetic 109 = .ok (.iadd, 1) := by decide +kernel
theorem d_Pr_arithmetic_110 : decode b_Pr_arithmetic 110 = .ok (.invokevirtual 161, 3) := by decide +kernel
theorem d_Pr_arithmetic_113 : decode b_Pr_arithmetic 113 = .ok (.ireturn, 1) := by decide +kernel
theorem d_Pr_arithmetic_114 : decode b_Pr_arithmetic 114 = .ok (.aload_n 0, 1) := by decide +kernel
theorem d_Pr_arithmetic_115 : decode b_Pr_arithmetic 115 = .ok (.iload_n 1, 1) := by decide +kernel
theorem d_Pr_arithmetic_116 : decode b_Pr_arithmetic 116 = .ok (.invokestatic 158, 3) := by decide +kernel
theorem d_Pr_arithmetic_119 : decode b_Pr_arithmetic 119 = .ok (.iload_n 2, 1) := by decide +kernel
theorem d_Pr_arithmetic_120 : decode b_Pr_arithmetic 120 = .ok (.i2l, 1) := by decide +kernel
theorem d_Pr_arithmetic_121 : decode b_Pr_arithmetic 121 = .ok (.iload_n 3, 1) := by decide +kernel
theorem d_Pr_arithmetic_122 : decode b_Pr_arithmetic 122 = .ok (.i2l, 1) := by decide +kernel
theorem d_Pr_arithmetic_123 : decode b_Pr_arithmetic 123 = .ok (.lsub, 1) := by decide +kernel
theorem d_Pr_arithmetic_124 : decode b_Pr_arithmetic 124 = .ok (.invokevirtual 216, 3) := by decide +kernel
theorem d_Pr_arithmetic_127 : decode b_Pr_arithmetic 127 = .ok (.ireturn, 1) := by decide +kernel
theorem d_Pr_arithmetic_128 : decode b_Pr_arithmetic 128 = .ok (.aload_n 0, 1) := by decide +kernel
theorem d_Pr_arithmetic_129 : decode b_Pr_arithmetic 129 = .ok (.iload_n 1, 1) := by decide +kernel
theorem d_Pr_arithmetic_130 : decode b_Pr_arithmetic 130 = .ok (.invokestatic 158, 3) := by decide +kernel
theorem d_Pr_arithmetic_133 : decode b_Pr_arithmetic 133 = .ok (.iload_n 2, 1) := by decide +kernel
theorem d_Pr_arithmetic_134 : decode b_Pr_arithmetic 134 = .ok (.iload_n 3, 1) := by decide +kernel
theorem d_Pr_arithmetic_135 : decode b_Pr_arithmetic 135 = .ok (.isub, 1) := by decide +kernel
theorem d_Pr_arithmetic_136 : decode b_Pr_arithmetic 136 = .ok (.invokevirtual 161, 3) := by decide +kernel
theorem d_Pr_arithmetic_139 : decode b_Pr_arithmetic 139 = .ok (.ireturn, 1) := by decide +kernel
theorem d_Pr_arithmetic_140 : decode b_Pr_arithmetic 140 = .ok (.aload_n 0, 1) := by decide +kernel
theorem d_Pr_arithmetic_141 : decode b_Pr_arithmetic 141 = .ok (.iload_n 1, 1) := by decide +kernel
theorem d_Pr_arithmetic_142 : decode b_Pr_arithmetic 142 = .ok (.invokestatic 158, 3) := by decide +kernel
theorem d_Pr_arithmetic_145 : decode b_Pr_arithmetic 145 = .ok (.iload_n 2, 1) := by decide +kernel
theorem d_Pr_arithmetic_146 : decode b_Pr_arithmetic 146 = .ok (.iload_n 3, 1) := by decide +kernel
theorem d_Pr_arithmetic_147 : decode b_Pr_arithmetic 147 = .ok (.iand, 1) := by decide +kernel
theorem d_Pr_arithmetic_148 : decode b_Pr_arithmetic 148 = .ok (.invokevirtual 161, 3) := by decide +kernel
theorem d_Pr_arithmetic_151 : decode b_Pr_arithmetic 151 = .ok (.ireturn, 1) := by decide +kernel
theorem d_Pr_arithmetic_152 : decode b_Pr_arithmetic 152 = .ok (.aload_n 0, 1) := by decide +kernel
theorem d_Pr_arithmetic_153 : decode b_Pr_arithmetic 153 = .ok (.iload_n 1, 1) := by decide +kernel
theorem d_Pr_arithmetic_154 : decode b_Pr_arithmetic 154 = .ok (.invokestatic 158, 3) := by decide +kernel
theorem d_Pr_arithmetic_157 : decode b_Pr_arithmetic 157 = .ok (.iload_n 2, 1) := by decide +kernel
theorem d_Pr_arithmetic_158 : decode b_Pr_arithmetic 158 = .ok (.iload_n 3, 1) := by decide +kernel
theorem d_Pr_arithmetic_159 : decode b_Pr_arithmetic 159 = .ok (.ior, 1) := by decide +kernel
theorem d_Pr_arithmetic_160 : decode b_Pr_arithmetic 160 = .ok (.invokevirtual 161, 3) := by decide +kernel
theorem d_Pr_arithmetic_163 : decode b_Pr_arithmetic 163 = .ok (.ireturn, 1) := by decide +kernel
theorem d_Pr_arithmetic_164 : decode b_Pr_arithmetic 164 = .ok (.aload_n 0, 1) := by decide +kernel
theorem d_Pr_arithmetic_165 : decode b_Pr_arithmetic 165 = .ok (.iload_n 1, 1) := by decide +kernel
theorem d_Pr_arithmetic_166 : decode b_Pr_arithmetic 166 = .ok (.invokestatic 158, 3) := by decide +kernel
theorem d_Pr_arithmetic_169 : decode b_Pr_arithmetic 169 = .ok (.iload_n 2, 1) := by decide +kernel
theorem d_Pr_arithmetic_170 : decode b_Pr_arithmetic 170 = .ok (.iload_n 3, 1) := by decide +kernel
theorem d_Pr_arithmetic_171 : decode b_Pr_arithmetic 171 = .ok (.ixor, 1) := by decide +kernel
theorem d_Pr_arithmetic_172 : decode b_Pr_arithmetic 172 = .ok (.invokevirtual 161, 3) := by decide +kernel
theorem d_Pr_arithmetic_175 : decode b_Pr_arithmetic 175 = .ok (.ireturn, 1) := by decide +kernel
theorem d_Pr_arithmetic_176 : decode b_Pr_arithmetic 176 = .ok (.aload_n 0, 1) := by decide +kernel
theorem d_Pr_arithmetic_177 : decode b_Pr_arithmetic 177 = .ok (.iload_n 1, 1) := by decide +kernel
theorem d_Pr_arithmetic_178 : decode b_Pr_arithmetic 178 = .ok (.invokestatic 158, 3) := by decide +kernel
theorem d_Pr_arithmetic_181 : decode b_Pr_arithmetic 181 = .ok (.iload_n 2, 1) := by decide +kernel
theorem d_Pr_arithmetic_182 : decode b_Pr_arithmetic 182 = .ok (.iload_n 3, 1) := by decide +kernel
theorem d_Pr_arithmetic_183 : decode b_Pr_arithmetic 183 = .ok (.ior, 1) := by decide +kernel
theorem d_Pr_arithmetic_184 : decode b_Pr_arithmetic 184 = .ok (.iconst (-1), 1) := by decide +kernel
theorem d_Pr_arithmetic_185 : decode b_Pr_arithmetic 185 = .ok (.ixor, 1) := by decide +kernel
theorem d_Pr_arithmetic_186 : decode b_Pr_arithmetic 186 = .ok (.invokevirtual 161, 3) := by decide +kernel
theorem d_Pr_arithmetic_189 : decode b_Pr_arithmetic 189 = .ok (.ireturn, 1) := by decide +kernel
theorem d_Pr_arithmetic_190 : decode b_Pr_arithmetic 190 = .ok (.aload_n 0, 1) := by decide +kernel
theorem d_Pr_arithmetic_191 : decode b_Pr_arithmetic 191 = .ok (.iload_n 1, 1) := by decide +kernel
theorem d_Pr_arithmetic_192 : decode b_Pr_arithmetic 192 = .ok (.invokestatic 158, 3) := by decide +kernel
theorem d_Pr_arithmetic_195 : decode b_Pr_arithmetic 195 = .ok (.iload_n 2, 1) := by decide +kernel
theorem d_Pr_arithmetic_196 : decode b_Pr_arithmetic 196 = .ok (.iload_n 3, 1) := by decide +kernel
theorem d_Pr_arithmetic_197 : decode b_Pr_arithmetic 197 = .ok (.if_icmp .ge 7, 3) := by decide +kernel
theorem d_Pr_arithmetic_200 : decode b_Pr_arithmetic 200 = .ok (.iconst 1, 1) := by decide +kernel
theorem d_Pr_arithmetic_201 : decode b_Pr_arithmetic 201 = .ok (.goto 4, 3) := by decide +kernel
theorem d_Pr_arithmetic_204 : decode b_Pr_arithmetic 204 = .ok (.iconst 0, 1) := by decide +kernel
theorem d_Pr_arithmetic_205 : decode b_Pr_arithmetic 205 = .ok (.invokevirtual 161, 3) := by decide +kernel
theorem d_Pr_arithmetic_208 : decode b_Pr_arithmetic 208 = .ok (.ireturn, 1) := by decide +kernel
theorem d_Pr_arithmetic_209 : decode b_Pr_arithmetic 209 = .ok (.aload_n 0, 1) := by decide +kernel
theorem d_Pr_arithmetic_210 : decode b_Pr_arithmetic 210 = .ok (.iload_n 1, 1) := by decide +kernel
theorem d_Pr_arithmetic_211 : decode b_Pr_arithmetic 211 = .ok (.invokestatic 158, 3) := by decide +kernel
theorem d_Pr_arithmetic_214 : decode b_Pr_arithmetic 214 = .ok (.iload_n 2, 1) := by decide +kernel
theorem d_Pr_arithmetic_215 : decode b_Pr_arithmetic 215 = .ok (.invokestatic 208, 3) := by decide +kernel
theorem d_Pr_arithmetic_218 : decode b_Pr_arithmetic 218 = .ok (.iload_n 3, 1) := by decide +kernel
theorem d_Pr_arithmetic_219 : decode b_Pr_arithmetic 219 = .ok (.invokestatic 208, 3) := by decide +kernel
theorem d_Pr_arithmetic_222 : decode b_Pr_arithmetic 222 = .ok (.lcmp, 1) := by decide +kernel
theorem d_Pr_arithmetic_223 : decode b_Pr_arithmetic 223 = .ok (.ifCond .ge 7, 3) := by decide +kernel
theorem d_Pr_arithmetic_226 : decode b_Pr_arithmetic 226 = .ok (.iconst 1, 1) := by decide +kernel
theorem d_Pr_arithmetic_227 : decode b_Pr_arithmetic 227 = .ok (.goto 4, 3) := by decide +kernel
theorem d_Pr_arithmetic_230 : decode b_Pr_arithmetic 230 = .ok (.iconst 0, 1) := by decide +kernel
theorem d_Pr_arithmetic_231 : decode b_Pr_arithmetic 231 = .ok (.invokevirtual 161, 3) := by decide +kernel
theorem d_Pr_arithmetic_234 : decode b_Pr_arithmetic 234 = .ok (.ireturn, 1) := by decide +kernel
theorem d_Pr_arithmetic_235 : decode b_Pr_arithmetic 235 = .ok (.iconst 3, 1) := by decide +kernel
theorem d_Pr_arithmetic_236 : decode b_Pr_arithmetic 236 = .ok (.ireturn, 1) := by decide +kernel
theorem d_Pr_special_0 : decode b_Pr_special 0 = .ok (.iload_n 1, 1) := by decide +kernel
theorem d_Pr_special_1 : decode b_Pr_special 1 = .ok (.invokestatic 136, 3) := by decide +kernel
theorem d_Pr_special_4 : decode b_Pr_special 4 = .ok (.iconst 3, 1) := by decide +kernel
theorem d_Pr_special_5 : decode b_Pr_special 5 = .ok (.iushr, 1) := by decide +kernel
theorem d_Pr_special_6 : decode b_Pr_special 6 = .ok (.tableswitch 102 0 6 #[42, 48, 54, 60, 66, 66, 72], 42) := by decide +kernel
theorem d_Pr_special_48 : decode b_Pr_special 48 = .ok (.aload_n 0, 1) := by decide +kernel
theorem d_Pr_special_49 : decode b_Pr_special 49 = .ok (.iload_n 1, 1) := by decide +kernel
theorem d_Pr_special_50 : decode b_Pr_special 50 = .ok (.invokevirtual 139, 3) := by decide +kernel
theorem d_Pr_special_53 : decode b_Pr_special 53 = .ok (.ireturn, 1) := by decide +kernel
theorem d_Pr_special_54 : decode b_Pr_special 54 = .ok (.aload_n 0, 1) := by decide +kernel
theorem d_Pr_special_55 : decode b_Pr_special 55 = .ok (.iload_n 1, 1) := by decide +kernel
theorem d_Pr_special_56 : decode b_Pr_special 56 = .ok (.invokevirtual 142, 3) := by decide +kernel
theorem d_Pr_special_59 : decode b_Pr_special 59 = .ok (.ireturn, 1) := by decide +kernel
theorem d_Pr_special_60 : decode b_Pr_special 60 = .ok (.aload_n 0, 1) := by decide +kernel
theorem d_Pr_special_61 : decode b_Pr_special 61 = .ok (.iload_n 1, 1) := by decide +kernel
theorem d_Pr_special_62 : decode b_Pr_special 62 = .ok (.invokevirtual 145, 3) := by decide +kernel
theorem d_Pr_special_65 : decode b_Pr_special 65 = .ok (.ireturn, 1) := by decide +kernel
theorem d_Pr_special_66 : decode b_Pr_special 66 = .ok (.aload_n 0, 1) := by decide +kernel
theorem d_Pr_special_67 : decode b_Pr_special 67 = .ok (.iload_n 1, 1) := by decide +kernel
theorem d_Pr_special_68 : decode b_Pr_special 68 = .ok (.invokevirtual 148, 3) := by decide +kernel
theorem d_Pr_special_71 : decode b_Pr_special 71 = .ok (.ireturn, 1) := by decide +kernel
theorem d_Pr_special_72 : decode b_Pr_special 72 = .ok (.aload_n 0, 1) := by decide +kernel
theorem d_Pr_special_73 : decode b_Pr_special 73 = .ok (.iload_n 1, 1) := by decide +kernel
theorem d_Pr_special_74 : decode b_Pr_special 74 = .ok (.invokevirtual 151, 3) := by decide +kernel
theorem d_Pr_special_77 : decode b_Pr_special 77 = .ok (.ireturn, 1) := by decide +kernel
theorem d_Pr_special_78 : decode b_Pr_special 78 = .ok (.aload_n 0, 1) := by decide +kernel
theorem d_Pr_special_79 : decode b_Pr_special 79 = .ok (.iload_n 1, 1) := by decide +kernel
theorem d_Pr_special_80 : decode b_Pr_special 80 = .ok (.invokestatic 136, 3) := by decide +kernel
theorem d_Pr_special_83 : decode b_Pr_special 83 = .ok (.bipush 7, 2) := by decide +kernel
theorem d_Pr_special_85 : decode b_Pr_special 85 = .ok (.iand, 1) := by decide +kernel
theorem d_Pr_special_86 : decode b_Pr_special 86 = .ok (.aload_n 0, 1) := by decide +kernel
theorem d_Pr_special_87 : decode b_Pr_special 87 = .ok (.getfield 9, 3) := by decide +kernel
theorem d_Pr_special_90 : decode b_Pr_special 90 = .ok (.iload_n 1, 1) := by decide +kernel
theorem d_Pr_special_91 : decode b_Pr_special 91 = .ok (.invokestatic 83, 3) := by decide +kernel
theorem d_Pr_special_94 : decode b_Pr_special 94 = .ok (.iaload, 1) := by decide +kernel
theorem d_Pr_special_95 : decode b_Pr_special 95 = .ok (.aload_n 0, 1) := by decide +kernel
theorem d_Pr_special_96 : decode b_Pr_special 96 = .ok (.getfield 9, 3) := by decide +kernel
theorem d_Pr_special_99 : decode b_Pr_special 99 = .ok (.iload_n 1, 1) := by decide +kernel
theorem d_Pr_special_100 : decode b_Pr_special 100 = .ok (.invokestatic 89, 3) := by decide +kernel
theorem d_Pr_special_103 : decode b_Pr_special 103 = .ok (.iaload, 1) := by decide +kernel
theorem d_Pr_special_104 : decode b_Pr_special 104 = .ok (.invokevirtual 154, 3) := by decide +kernel
theorem d_Pr_special_107 : decode b_Pr_special 107 = .ok (.ireturn, 1) := by decide +kernel
theorem d_Pr_special_108 : decode b_Pr_special 108 = .ok (.iconst 3, 1) := by decide +kernel
theorem d_Pr_special_109 : decode b_Pr_special 109 = .ok (.ireturn, 1) := by decide +kernel
theorem d_Pr_branch_0 : decode b_Pr_branch 0 = .ok (.iload_n 2, 1) := by decide +kernel
theorem d_Pr_branch_1 : decode b_Pr_branch 1 = .ok (.ifCond .eq 19, 3) := by decide +kernel
theorem d_Pr_branch_4 : decode b_Pr_branch 4 = .ok (.aload_n 0, 1) := by decide +kernel
theorem d_Pr_branch_5 : decode b_Pr_branch 5 = .ok (.aload_n 0, 1) := by decide +kernel
theorem d_Pr_branch_6 : decode b_Pr_branch 6 = .ok (.getfield 29, 3) := by decide +kernel
theorem d_Pr_branch_9 : decode b_Pr_branch 9 = .ok (.iload_n 1, 1) := by decide +kernel
theorem d_Pr_branch_10 : decode b_Pr_branch 10 = .ok (.invokestatic 221, 3) := by decide +kernel
theorem d_Pr_branch_13 : decode b_Pr_branch 13 = .ok (.iconst 2, 1) := by decide +kernel
theorem d_Pr_branch_14 : decode b_Pr_branch 14 = .ok (.ishl, 1) := by decide +kernel
theorem d_Pr_branch_15 : decode b_Pr_branch 15 = .ok (.iadd, 1) := by decide +kernel
theorem d_Pr_branch_16 : decode b_Pr_branch 16 = .ok (.invokevirtual 172, 3) := by decide +kernel
theorem d_Pr_branch_19 : decode b_Pr_branch 19 = .ok (.ireturn, 1) := by decide +kernel
theorem d_Pr_branch_20 : decode b_Pr_branch 20 = .ok (.iload_n 3, 1) := by decide +kernel
theorem d_Pr_branch_21 : decode b_Pr_branch 21 = .ok (.ifCond .eq 34, 3) := by decide +kernel
theorem d_Pr_branch_24 : decode b_Pr_branch 24 = .ok (.aload_n 0, 1) := by decide +kernel
theorem d_Pr_branch_25 : decode b_Pr_branch 25 = .ok (.dup, 1) := by decide +kernel
theorem d_Pr_branch_26 : decode b_Pr_branch 26 = .ok (.getfield 253, 3) := by decide +kernel
theorem d_Pr_branch_29 : decode b_Pr_branch 29 = .ok (.iconst 1, 1) := by decide +kernel
theorem d_Pr_branch_30 : decode b_Pr_branch 30 = .ok (.iadd, 1) := by decide +kernel
theorem d_Pr_branch_31 : decode b_Pr_branch 31 = .ok (.putfield 253, 3) := by decide +kernel
theorem d_Pr_branch_34 : decode b_Pr_branch 34 = .ok (.aload_n 0, 1) := by decide +kernel
theorem d_Pr_branch_35 : decode b_Pr_branch 35 = .ok (.aload_n 0, 1) := by decide +kernel
theorem d_Pr_branch_36 : decode b_Pr_branch 36 = .ok (.getfield 29, 3) := by decide +kernel
theorem d_Pr_branch_39 : decode b_Pr_branch 39 = .ok (.iconst 4, 1) := by decide +kernel
theorem d_Pr_branch_40 : decode b_Pr_branch 40 = .ok (.iadd, 1) := by decide +kernel
theorem d_Pr_branch_41 : decode b_Pr_branch 41 = .ok (.aload_n 0, 1) := by decide +kernel
theorem d_Pr_branch_42 : decode b_Pr_branch 42 = .ok (.getfield 29, 3) := by decide +kernel
theorem d_Pr_branch_45 : decode b_Pr_branch 45 = .ok (.bipush 8, 2) := by decide +kernel
theorem d_Pr_branch_47 : decode b_Pr_branch 47 = .ok (.iadd, 1) := by decide +kernel
theorem d_Pr_branch_48 : decode b_Pr_branch 48 = .ok (.iconst 0, 1) := by decide +kernel
theorem d_Pr_branch_49 : decode b_Pr_branch 49 = .ok (.invokevirtual 37, 3) := by decide +kernel
theorem d_Pr_branch_52 : decode b_Pr_branch 52 = .ok (.goto 18, 3) := by decide +kernel
theorem d_Pr_branch_55 : decode b_Pr_branch 55 = .ok (.aload_n 0, 1) := by decide +kernel
theorem d_Pr_branch_56 : decode b_Pr_branch 56 = .ok (.aload_n 0, 1) := by decide +kernel
theorem d_Pr_branch_57 : decode b_Pr_branch 57 = .ok (.getfield 29, 3) := by decide +kernel
theorem d_Pr_branch_60 : decode b_Pr_branch 60 = .ok (.aload_n 0, 1) := by decide +kernel
theorem d_Pr_branch_61 : decode b_Pr_branch 61 = .ok (.getfield 29, 3) := by decide +kernel
theorem d_Pr_branch_64 : decode b_Pr_branch 64 = .ok (.iconst 4, 1) := by decide +kernel
theorem d_Pr_branch_65 : decode b_Pr_branch 65 = .ok (.iadd, 1) := by decide +kernel
theorem d_Pr_branch_66 : decode b_Pr_branch 66 = .ok (.iconst 1, 1) := by decide +kernel
theorem d_Pr_branch_67 : decode b_Pr_branch 67 = .ok (.invokevirtual 37, 3) := by decide +kernel
theorem d_Pr_branch_70 : decode b_Pr_branch 70 = .ok (.iconst (-1), 1) := by decide +kernel
theorem d_Pr_branch_71 : decode b_Pr_branch 71 = .ok (.ireturn, 1) := by decide +kernel
theorem d_Pr_branchOnSign_0 : decode b_Pr_branchOnSign 0 = .ok (.iload_n 1, 1) := by decide +kernel
theorem d_Pr_branchOnSign_1 : decode b_Pr_branchOnSign 1 = .ok (.invokestatic 89, 3) := by decide +kernel
theorem d_Pr_branchOnSign_4 : decode b_Pr_branchOnSign 4 = .ok (.bipush 16, 2) := by decide +kernel
theorem d_Pr_branchOnSign_6 : decode b_Pr_branchOnSign 6 = .ok (.if_icmp .lt 7, 3) := by decide +kernel
theorem d_Pr_branchOnSign_9 : decode b_Pr_branchOnSign 9 = .ok (.iconst 1, 1) := by decide +kernel
theorem d_Pr_branchOnSign_10 : decode b_Pr_branchOnSign 10 = .ok (.goto 4, 3) := by decide +kernel
theorem d_Pr_branchOnSign_13 : decode b_Pr_branchOnSign 13 = .ok (.iconst 0, 1) := by decide +kernel
theorem d_Pr_branchOnSign_14 : decode b_Pr_branchOnSign 14 = .ok (.istore_n 2, 1) := by decide +kernel
theorem d_Pr_branchOnSign_15 : decode b_Pr_branchOnSign 15 = .ok (.aload_n 0, 1) := by decide +kernel
theorem d_Pr_branchOnSign_16 : decode b_Pr_branchOnSign 16 = .ok (.getfield 68, 3) := by decide +kernel
theorem d_Pr_branchOnSign_19 : decode b_Pr_branchOnSign 19 = .ok (.ifCond .ne 16, 3) := by decide +kernel
theorem d_Pr_branchOnSign_22 : decode b_Pr_branchOnSign 22 = .ok (.iload_n 2, 1) := by decide +kernel
theorem d_Pr_branchOnSign_23 : decode b_Pr_branchOnSign 23 = .ok (.ifCond .eq 15, 3) := by decide +kernel
theorem d_Pr_branchOnSign_26 : decode b_Pr_branchOnSign 26 = .ok (.iload_n 1, 1) := by decide +kernel
theorem d_Pr_branchOnSign_27 : decode b_Pr_branchOnSign 27 = .ok (.invokestatic 83, 3) := by decide +kernel
theorem d_Pr_branchOnSign_30 : decode b_Pr_branchOnSign 30 = .ok (.bipush 31, 2) := by decide +kernel
theorem d_Pr_branchOnSign_32 : decode b_Pr_branchOnSign 32 = .ok (.if_icmp .ne 6, 3) := by decide +kernel
theorem d_Pr_branchOnSign_35 : decode b_Pr_branchOnSign 35 = .ok (.bipush 8, 2) := by decide +kernel
theorem d_Pr_branchOnSign_37 : decode b_Pr_branchOnSign 37 = .ok (.ireturn, 1) := by decide +kernel
theorem d_Pr_branchOnSign_38 : decode b_Pr_branchOnSign 38 = .ok (.aload_n 0, 1) := by decide +kernel
theorem d_Pr_branchOnSign_39 : decode b_Pr_branchOnSign 39 = .ok (.getfield 9, 3) := by decide +kernel
theorem d_Pr_branchOnSign_42 : decode b_Pr_branchOnSign 42 = .ok (.iload_n 1, 1) := by decide +kernel
theorem d_Pr_branchOnSign_43 : decode b_Pr_branchOnSign 43 = .ok (.invokestatic 83, 3) := by decide +kernel
theorem d_Pr_branchOnSign_46 : decode b_Pr_branchOnSign 46 = .ok (.iaload, 1) := by decide +kernel
theorem d_Pr_branchOnSign_47 : decode b_Pr_branchOnSign 47 = .ok (.ifCond .ge 7, 3) := by decide +kernel
theorem d_Pr_branchOnSign_50 : decode b_Pr_branchOnSign 50 = .ok (.iconst 1, 1) := by decide +kernel
theorem d_Pr_branchOnSign_51 : decode b_Pr_branchOnSign 51 = .ok (.goto 4, 3) := by decide +kernel
theorem d_Pr_branchOnSign_54 : decode b_Pr_branchOnSign 54 = .ok (.iconst 0, 1) := by decide +kernel
theorem d_Pr_branchOnSign_55 : decode b_Pr_branchOnSign 55 = .ok (.istore_n 3, 1) := by decide +kernel
theorem d_Pr_branchOnSign_56 : decode b_Pr_branchOnSign 56 = .ok (.iload_n 2, 1) := by decide +kernel
theorem d_Pr_branchOnSign_57 : decode b_Pr_branchOnSign 57 = .ok (.ifCond .eq 16, 3) := by decide +kernel
theorem d_Pr_branchOnSign_60 : decode b_Pr_branchOnSign 60 = .ok (.aload_n 0, 1) := by decide +kernel
theorem d_Pr_branchOnSign_61 : decode b_Pr_branchOnSign 61 = .ok (.bipush 31, 2) := by decide +kernel
theorem d_Pr_branchOnSign_63 : decode b_Pr_branchOnSign 63 = .ok (.aload_n 0, 1) := by decide +kernel
theorem d_Pr_branchOnSign_64 : decode b_Pr_branchOnSign 64 = .ok (.getfield 48, 3) := by decide +kernel
theorem d_Pr_branchOnSign_67 : decode b_Pr_branchOnSign 67 = .ok (.bipush 8, 2) := by decide +kernel
theorem d_Pr_branchOnSign_69 : decode b_Pr_branchOnSign 69 = .ok (.iadd, 1) := by decide +kernel
theorem d_Pr_branchOnSign_70 : decode b_Pr_branchOnSign 70 = .ok (.invokevirtual 245, 3) := by decide +kernel
theorem d_Pr_branchOnSign_73 : decode b_Pr_branchOnSign 73 = .ok (.iload_n 1, 1) := by decide +kernel
theorem d_Pr_branchOnSign_74 : decode b_Pr_branchOnSign 74 = .ok (.invokestatic 89, 3) := by decide +kernel
theorem d_Pr_branchOnSign_77 : decode b_Pr_branchOnSign 77 = .ok (.iconst 1, 1) := by decide +kernel
theorem d_Pr_branchOnSign_78 : decode b_Pr_branchOnSign 78 = .ok (.iand, 1) := by decide +kernel
theorem d_Pr_branchOnSign_79 : decode b_Pr_branchOnSign 79 = .ok (.ifCond .ne 7, 3) := by decide +kernel
theorem d_Pr_branchOnSign_82 : decode b_Pr_branchOnSign 82 = .ok (.iconst 1, 1) := by decide +kernel
theorem d_Pr_branchOnSign_83 : decode b_Pr_branchOnSign 83 = .ok (.goto 4, 3) := by decide +kernel
theorem d_Pr_branchOnSign_86 : decode b_Pr_branchOnSign 86 = .ok (.iconst 0, 1) := by decide +kernel
theorem d_Pr_branchOnSign_87 : decode b_Pr_branchOnSign 87 = .ok (.istore 4, 2) := by decide +kernel
theorem d_Pr_branchOnSign_89 : decode b_Pr_branchOnSign 89 = .ok (.aload_n 0, 1) := by decide +kernel
theorem d_Pr_branchOnSign_90 : decode b_Pr_branchOnSign 90 = .ok (.iload_n 1, 1) := by decide +kernel
theorem d_Pr_branchOnSign_91 : decode b_Pr_branchOnSign 91 = .ok (.iload_n 3, 1) := by decide +kernel
theorem d_Pr_branchOnSign_92 : decode b_Pr_branchOnSign 92 = .ok (.iload 4, 2) := by decide +kernel
theorem d_Pr_branchOnSign_94 : decode b_Pr_branchOnSign 94 = .ok (.if_icmp .ne 7, 3) := by decide +kernel
theorem d_Pr_branchOnSign_97 : decode b_Pr_branchOnSign 97 = .ok (.iconst 1, 1) := by decide +kernel
theorem d_Pr_branchOnSign_98 : decode b_Pr_branchOnSign 98 = .ok (.goto 4, 3) := by decide +kernel
theorem d_Pr_branchOnSign_101 : decode b_Pr_branchOnSign 101 = .ok (.iconst 0, 1) := by decide +kernel
theorem d_Pr_branchOnSign_102 : decode b_Pr_branchOnSign 102 = .ok (.iload_n 1, 1) := by decide +kernel
theorem d_Pr_branchOnSign_103 : decode b_Pr_branchOnSign 103 = .ok (.invokestatic 89, 3) := by decide +kernel
theorem d_Pr_branchOnSign_106 : decode b_Pr_branchOnSign 106 = .ok (.iconst 2, 1) := by decide +kernel
theorem d_Pr_branchOnSign_107 : decode b_Pr_branchOnSign 107 = .ok (.iand, 1) := by decide +kernel
theorem d_Pr_branchOnSign_108 : decode b_Pr_branchOnSign 108 = .ok (.ifCond .eq 7, 3) := by decide +kernel
theorem d_Pr_branchOnSign_111 : decode b_Pr_branchOnSign 111 = .ok (.iconst 1, 1) := by decide +kernel
theorem d_Pr_branchOnSign_112 : decode b_Pr_branchOnSign 112 = .ok (.goto 4, 3) := by decide +kernel
theorem d_Pr_branchOnSign_115 : decode b_Pr_branchOnSign 115 = .ok (.iconst 0, 1) := by decide +kernel
theorem d_Pr_branchOnSign_116 : decode b_Pr_branchOnSign 116 = .ok (.invokevirtual 249, 3) := by decide +kernel
theorem d_Pr_branchOnSign_119 : decode b_Pr_branchOnSign 119 = .ok (.ireturn, 1) := by decide +kernel
theorem d_Pr_regimm_0 : decode b_Pr_regimm 0 = .ok (.iload_n 1, 1) := by decide +kernel
theorem d_Pr_regimm_1 : decode b_Pr_regimm 1 = .ok (.invokestatic 89, 3) := by decide +kernel
theorem d_Pr_regimm_4 : decode b_Pr_regimm 4 = .ok (.iconst 2, 1) := by decide +kernel
theorem d_Pr_regimm_5 : decode b_Pr_regimm 5 = .ok (.iushr, 1) := by decide +kernel
theorem d_Pr_regimm_6 : decode b_Pr_regimm 6 = .ok (.tableswitch 65 0 4 #[34, 65, 40, 40, 34], 34) := by decide +kernel
theorem d_Pr_regimm_40 : decode b_Pr_regimm 40 = .ok (.aload_n 0, 1) := by decide +kernel
theorem d_Pr_regimm_41 : decode b_Pr_regimm 41 = .ok (.iload_n 1, 1) := by decide +kernel
theorem d_Pr_regimm_42 : decode b_Pr_regimm 42 = .ok (.invokevirtual 242, 3) := by decide +kernel
theorem d_Pr_regimm_45 : decode b_Pr_regimm 45 = .ok (.ireturn, 1) := by decide +kernel
theorem d_Pr_regimm_46 : decode b_Pr_regimm 46 = .ok (.aload_n 0, 1) := by decide +kernel
theorem d_Pr_regimm_47 : decode b_Pr_regimm 47 = .ok (.iload_n 1, 1) := by decide +kernel
theorem d_Pr_regimm_48 : decode b_Pr_regimm 48 = .ok (.invokestatic 89, 3) := by decide +kernel
theorem d_Pr_regimm_51 : decode b_Pr_regimm 51 = .ok (.bipush 7, 2) := by decide +kernel
theorem d_Pr_regimm_53 : decode b_Pr_regimm 53 = .ok (.iand, 1) := by decide +kernel
theorem d_Pr_regimm_54 : decode b_Pr_regimm 54 = .ok (.aload_n 0, 1) := by decide +kernel
theorem d_Pr_regimm_55 : decode b_Pr_regimm 55 = .ok (.getfield 9, 3) := by decide +kernel
theorem d_Pr_regimm_58 : decode b_Pr_regimm 58 = .ok (.iload_n 1, 1) := by decide +kernel
theorem d_Pr_regimm_59 : decode b_Pr_regimm 59 = .ok (.invokestatic 83, 3) := by decide +kernel
theorem d_Pr_regimm_62 : decode b_Pr_regimm 62 = .ok (.iaload, 1) := by decide +kernel
theorem d_Pr_regimm_63 : decode b_Pr_regimm 63 = .ok (.iload_n 1, 1) := by decide +kernel
theorem d_Pr_regimm_64 : decode b_Pr_regimm 64 = .ok (.invokestatic 221, 3) := by decide +kernel
theorem d_Pr_regimm_67 : decode b_Pr_regimm 67 = .ok (.invokevirtual 154, 3) := by decide +kernel
theorem d_Pr_regimm_70 : decode b_Pr_regimm 70 = .ok (.ireturn, 1) := by decide +kernel
theorem d_Pr_regimm_71 : decode b_Pr_regimm 71 = .ok (.iconst 3, 1) := by decide +kernel
theorem d_Pr_regimm_72 : decode b_Pr_regimm 72 = .ok (.ireturn, 1) := by decide +kernel
theorem d_Pr_accumulate_0 : decode b_Pr_accumulate 0 = .ok (.aload_n 0, 1) := by decide +kernel
theorem d_Pr_accumulate_1 : decode b_Pr_accumulate 1 = .ok (.getfield 18, 3) := by decide +kernel
theorem d_Pr_accumulate_4 : decode b_Pr_accumulate 4 = .ok (.invokevirtual 234, 3) := by decide +kernel
theorem d_Pr_accumulate_7 : decode b_Pr_accumulate 7 = .ok (.ifCond .ne 6, 3) := by decide +kernel
theorem d_Pr_accumulate_10 : decode b_Pr_accumulate 10 = .ok (.bipush 8, 2) := by decide +kernel
theorem d_Pr_accumulate_12 : decode b_Pr_accumulate 12 = .ok (.ireturn, 1) := by decide +kernel
theorem d_Pr_accumulate_13 : decode b_Pr_accumulate 13 = .ok (.aload_n 0, 1) := by decide +kernel
theorem d_Pr_accumulate_14 : decode b_Pr_accumulate 14 = .ok (.getfield 18, 3) := by decide +kernel
theorem d_Pr_accumulate_17 : decode b_Pr_accumulate 17 = .ok (.aload_n 0, 1) := by decide +kernel
theorem d_Pr_accumulate_18 : decode b_Pr_accumulate 18 = .ok (.getfield 18, 3) := by decide +kernel
theorem d_Pr_accumulate_21 : decode b_Pr_accumulate 21 = .ok (.invokevirtual 238, 3) := by decide +kernel
theorem d_Pr_accumulate_24 : decode b_Pr_accumulate 24 = .ok (.lload_n 1, 1) := by decide +kernel
theorem d_Pr_accumulate_25 : decode b_Pr_accumulate 25 = .ok (.ladd, 1) := by decide +kernel
theorem d_Pr_accumulate_26 : decode b_Pr_accumulate 26 = .ok (.invokevirtual 204, 3) := by decide +kernel
theorem d_Pr_accumulate_29 : decode b_Pr_accumulate 29 = .ok (.iconst 0, 1) := by decide +kernel
theorem d_Pr_accumulate_30 : decode b_Pr_accumulate 30 = .ok (.ireturn, 1) := by decide +kernel
theorem d_Pr_special2_0 : decode b_Pr_special2 0 = .ok (.aload_n 0, 1) := by decide +kernel
theorem d_Pr_special2_1 : decode b_Pr_special2 1 = .ok (.getfield 9, 3) := by decide +kernel
theorem d_Pr_special2_4 : decode b_Pr_special2 4 = .ok (.iload_n 1, 1) := by decide +kernel
theorem d_Pr_special2_5 : decode b_Pr_special2 5 = .ok (.invokestatic 83, 3) := by decide +kernel
theorem d_Pr_special2_8 : decode b_Pr_special2 8 = .ok (.iaload, 1) := by decide +kernel
theorem d_Pr_special2_9 : decode b_Pr_special2 9 = .ok (.istore_n 2, 1) := by decide +kernel
theorem d_Pr_special2_10 : decode b_Pr_special2 10 = .ok (.aload_n 0, 1) := by decide +kernel
theorem d_Pr_special2_11 : decode b_Pr_special2 11 = .ok (.getfield 9, 3) := by decide +kernel
theorem d_Pr_special2_14 : decode b_Pr_special2 14 = .ok (.iload_n 1, 1) := by decide +kernel
theorem d_Pr_special2_15 : decode b_Pr_special2 15 = .ok (.invokestatic 89, 3) := by decide +kernel
theorem d_Pr_special2_18 : decode b_Pr_special2 18 = .ok (.iaload, 1) := by decide +kernel
theorem d_Pr_special2_19 : decode b_Pr_special2 19 = .ok (.istore_n 3, 1) := by decide +kernel
theorem d_Pr_special2_20 : decode b_Pr_special2 20 = .ok (.iload_n 1, 1) := by decide +kernel
theorem d_Pr_special2_21 : decode b_Pr_special2 21 = .ok (.invokestatic 136, 3) := by decide +kernel
theorem d_Pr_special2_24 : decode b_Pr_special2 24 = .ok (.lookupswitch 165 #[(0, 68), (1, 78), (2, 118), (4, 92), (5, 103), (32, 137), (33, 150)], 68) := by decide +kernel
theorem d_Pr_special2_92 : decode b_Pr_special2 92 = .ok (.aload_n 0, 1) := by decide +kernel
theorem d_Pr_special2_93 : decode b_Pr_special2 93 = .ok (.iload_n 2, 1) := by decide +kernel
theorem d_Pr_special2_94 : decode b_Pr_special2 94 = .ok (.i2l, 1) := by decide +kernel
theorem d_Pr_special2_95 : decode b_Pr_special2 95 = .ok (.iload_n 3, 1) := by decide +kernel
theorem d_Pr_special2_96 : decode b_Pr_special2 96 = .ok (.i2l, 1) := by decide +kernel
theorem d_Pr_special2_97 : decode b_Pr_special2 97 = .ok (.lmul, 1) := by decide +kernel
theorem d_Pr_special2_98 : decode b_Pr_special2 98 = .ok (.invokevirtual 224, 3) := by decide +kernel
theorem d_Pr_special2_101 : decode b_Pr_special2 101 = .ok (.ireturn, 1) := by decide +kernel
theorem d_Pr_special2_102 : decode b_Pr_special2 102 = .ok (.aload_n 0, 1) := by decide +kernel
theorem d_Pr_special2_103 : decode b_Pr_special2 103 = .ok (.iload_n 2, 1) := by decide +kernel
theorem d_Pr_special2_104 : decode b_Pr_special2 104 = .ok (.invokestatic 208, 3) := by decide +kernel
theorem d_Pr_special2_107 : decode b_Pr_special2 107 = .ok (.iload_n 3, 1) := by decide +kernel
theorem d_Pr_special2_108 : decode b_Pr_special2 108 = .ok (.invokestatic 208, 3) := by decide +kernel
theorem d_Pr_special2_111 : decode b_Pr_special2 111 = .ok (.lmul, 1) := by decide +kernel
theorem d_Pr_special2_112 : decode b_Pr_special2 112 = .ok (.invokevirtual 224, 3) := by decide +kernel
theorem d_Pr_special2_115 : decode b_Pr_special2 115 = .ok (.ireturn, 1) := by decide +kernel
theorem d_Pr_special2_116 : decode b_Pr_special2 116 = .ok (.aload_n 0, 1) := by decide +kernel
theorem d_Pr_special2_117 : decode b_Pr_special2 117 = .ok (.iload_n 2, 1) := by decide +kernel
theorem d_Pr_special2_118 : decode b_Pr_special2 118 = .ok (.i2l, 1) := by decide +kernel
theorem d_Pr_special2_119 : decode b_Pr_special2 119 = .ok (.iload_n 3, 1) := by decide +kernel
theorem d_Pr_special2_120 : decode b_Pr_special2 120 = .ok (.i2l, 1) := by decide +kernel
theorem d_Pr_special2_121 : decode b_Pr_special2 121 = .ok (.lmul, 1) := by decide +kernel
theorem d_Pr_special2_122 : decode b_Pr_special2 122 = .ok (.lneg, 1) := by decide +kernel
theorem d_Pr_special2_123 : decode b_Pr_special2 123 = .ok (.invokevirtual 224, 3) := by decide +kernel
theorem d_Pr_special2_126 : decode b_Pr_special2 126 = .ok (.ireturn, 1) := by decide +kernel
theorem d_Pr_special2_127 : decode b_Pr_special2 127 = .ok (.aload_n 0, 1) := by decide +kernel
theorem d_Pr_special2_128 : decode b_Pr_special2 128 = .ok (.iload_n 2, 1) := by decide +kernel
theorem d_Pr_special2_129 : decode b_Pr_special2 129 = .ok (.invokestatic 208, 3) := by decide +kernel
theorem d_Pr_special2_132 : decode b_Pr_special2 132 = .ok (.iload_n 3, 1) := by decide +kernel
theorem d_Pr_special2_133 : decode b_Pr_special2 133 = .ok (.invokestatic 208, 3) := by decide +kernel
theorem d_Pr_special2_136 : decode b_Pr_special2 136 = .ok (.lmul, 1) := by decide +kernel
theorem d_Pr_special2_137 : decode b_Pr_special2 137 = .ok (.lneg, 1) := by decide +kernel
theorem d_Pr_special2_138 : decode b_Pr_special2 138 = .ok (.invokevirtual 224, 3) := by decide +kernel
theorem d_Pr_special2_141 : decode b_Pr_special2 141 = .ok (.ireturn, 1) := by decide +kernel
theorem d_Pr_special2_142 : decode b_Pr_special2 142 = .ok (.aload_n 0, 1) := by decide +kernel
theorem d_Pr_special2_143 : decode b_Pr_special2 143 = .ok (.getfield 18, 3) := by decide +kernel
theorem d_Pr_special2_146 : decode b_Pr_special2 146 = .ok (.invokevirtual 228, 3) := by decide +kernel
theorem d_Pr_special2_149 : decode b_Pr_special2 149 = .ok (.aload_n 0, 1) := by decide +kernel
theorem d_Pr_special2_150 : decode b_Pr_special2 150 = .ok (.iload_n 1, 1) := by decide +kernel
theorem d_Pr_special2_151 : decode b_Pr_special2 151 = .ok (.invokestatic 158, 3) := by decide +kernel
theorem d_Pr_special2_154 : decode b_Pr_special2 154 = .ok (.iload_n 2, 1) := by decide +kernel
theorem d_Pr_special2_155 : decode b_Pr_special2 155 = .ok (.iload_n 3, 1) := by decide +kernel
theorem d_Pr_special2_156 : decode b_Pr_special2 156 = .ok (.imul, 1) := by decide +kernel
theorem d_Pr_special2_157 : decode b_Pr_special2 157 = .ok (.invokevirtual 161, 3) := by decide +kernel
theorem d_Pr_special2_160 : decode b_Pr_special2 160 = .ok (.ireturn, 1) := by decide +kernel
theorem d_Pr_special2_161 : decode b_Pr_special2 161 = .ok (.aload_n 0, 1) := by decide +kernel
theorem d_Pr_special2_162 : decode b_Pr_special2 162 = .ok (.iload_n 1, 1) := by decide +kernel
theorem d_Pr_special2_163 : decode b_Pr_special2 163 = .ok (.invokestatic 158, 3) := by decide +kernel
theorem d_Pr_special2_166 : decode b_Pr_special2 166 = .ok (.iload_n 2, 1) := by decide +kernel
theorem d_Pr_special2_167 : decode b_Pr_special2 167 = .ok (.invokestatic 231, 3) := by decide +kernel
theorem d_Pr_special2_170 : decode b_Pr_special2 170 = .ok (.invokevirtual 161, 3) := by decide +kernel
theorem d_Pr_special2_173 : decode b_Pr_special2 173 = .ok (.ireturn, 1) := by decide +kernel
theorem d_Pr_special2_174 : decode b_Pr_special2 174 = .ok (.aload_n 0, 1) := by decide +kernel
theorem d_Pr_special2_175 : decode b_Pr_special2 175 = .ok (.iload_n 1, 1) := by decide +kernel
theorem d_Pr_special2_176 : decode b_Pr_special2 176 = .ok (.invokestatic 158, 3) := by decide +kernel
theorem d_Pr_special2_179 : decode b_Pr_special2 179 = .ok (.iload_n 2, 1) := by decide +kernel
theorem d_Pr_special2_180 : decode b_Pr_special2 180 = .ok (.iconst (-1), 1) := by decide +kernel
theorem d_Pr_special2_181 : decode b_Pr_special2 181 = .ok (.ixor, 1) := by decide +kernel
theorem d_Pr_special2_182 : decode b_Pr_special2 182 = .ok (.invokestatic 231, 3) := by decide +kernel
theorem d_Pr_special2_185 : decode b_Pr_special2 185 = .ok (.invokevirtual 161, 3) := by decide +kernel
theorem d_Pr_special2_188 : decode b_Pr_special2 188 = .ok (.ireturn, 1) := by decide +kernel
theorem d_Pr_special2_189 : decode b_Pr_special2 189 = .ok (.iconst 3, 1) := by decide +kernel
theorem d_Pr_special2_190 : decode b_Pr_special2 190 = .ok (.ireturn, 1) := by decide +kernel
theorem d_Pr_branchOnCondition_0 : decode b_Pr_branchOnCondition 0 = .ok (.aload_n 0, 1) := by decide +kernel
theorem d_Pr_branchOnCondition_1 : decode b_Pr_branchOnCondition 1 = .ok (.getfield 68, 3) := by decide +kernel
theorem d_Pr_branchOnCondition_4 : decode b_Pr_branchOnCondition 4 = .ok (.ifCond .eq 6, 3) := by decide +kernel
theorem d_Pr_branchOnCondition_7 : decode b_Pr_branchOnCondition 7 = .ok (.bipush 8, 2) := by decide +kernel
theorem d_Pr_branchOnCondition_9 : decode b_Pr_branchOnCondition 9 = .ok (.ireturn, 1) := by decide +kernel
theorem d_Pr_branchOnCondition_10 : decode b_Pr_branchOnCondition 10 = .ok (.aload_n 0, 1) := by decide +kernel
theorem d_Pr_branchOnCondition_11 : decode b_Pr_branchOnCondition 11 = .ok (.iload_n 1, 1) := by decide +kernel
theorem d_Pr_branchOnCondition_12 : decode b_Pr_branchOnCondition 12 = .ok (.aload_n 0, 1) := by decide +kernel
theorem d_Pr_branchOnCondition_13 : decode b_Pr_branchOnCondition 13 = .ok (.getfield 25, 3) := by decide +kernel
theorem d_Pr_branchOnCondition_16 : decode b_Pr_branchOnCondition 16 = .ok (.iload_n 1, 1) := by decide +kernel
theorem d_Pr_branchOnCondition_17 : decode b_Pr_branchOnCondition 17 = .ok (.invokevirtual 164, 3) := by decide +kernel
theorem d_Pr_branchOnCondition_20 : decode b_Pr_branchOnCondition 20 = .ok (.iload_n 1, 1) := by decide +kernel
theorem d_Pr_branchOnCondition_21 : decode b_Pr_branchOnCondition 21 = .ok (.bipush 17, 2) := by decide +kernel
theorem d_Pr_branchOnCondition_23 : decode b_Pr_branchOnCondition 23 = .ok (.iushr, 1) := by decide +kernel
theorem d_Pr_branchOnCondition_24 : decode b_Pr_branchOnCondition 24 = .ok (.iconst 1, 1) := by decide +kernel
theorem d_Pr_branchOnCondition_25 : decode b_Pr_branchOnCondition 25 = .ok (.iand, 1) := by decide +kernel
theorem d_Pr_branchOnCondition_26 : decode b_Pr_branchOnCondition 26 = .ok (.ifCond .eq 7, 3) := by decide +kernel
theorem d_Pr_branchOnCondition_29 : decode b_Pr_branchOnCondition 29 = .ok (.iconst 1, 1) := by decide +kernel
theorem d_Pr_branchOnCondition_30 : decode b_Pr_branchOnCondition 30 = .ok (.goto 4, 3) := by decide +kernel
theorem d_Pr_branchOnCondition_33 : decode b_Pr_branchOnCondition 33 = .ok (.iconst 0, 1) := by decide +kernel
theorem d_Pr_branchOnCondition_34 : decode b_Pr_branchOnCondition 34 = .ok (.invokevirtual 249, 3) := by decide +kernel
theorem d_Pr_branchOnCondition_37 : decode b_Pr_branchOnCondition 37 = .ok (.ireturn, 1) := by decide +kernel
theorem d_Pr_coprocessor_0 : decode b_Pr_coprocessor 0 = .ok (.iload_n 1, 1) := by decide +kernel
theorem d_Pr_coprocessor_1 : decode b_Pr_coprocessor 1 = .ok (.invokestatic 83, 3) := by decide +kernel
