theorem d_Md_memories_268 : decode b_Md_memories 268 = .ok (.invokevirtual 116, 3) := by decide +kernel
theorem d_Md_memories_271 : decode b_Md_memories 271 = .ok (.return_, 1) := by decide +kernel
theorem d_Md_operate_0 : decode b_Md_operate 0 = .ok (.iload_n 1, 1) := by decide +kernel
theorem d_Md_operate_1 : decode b_Md_operate 1 = .ok (.ifCond .ne 17, 3) := by decide +kernel
theorem d_Md_operate_4 : decode b_Md_operate 4 = .ok (.aload_n 0, 1) := by decide +kernel
theorem d_Md_operate_5 : decode b_Md_operate 5 = .ok (.aload_n 0, 1) := by decide +kernel
theorem d_Md_operate_6 : decode b_Md_operate 6 = .ok (.getfield 82, 3) := by decide +kernel
theorem d_Md_operate_9 : decode b_Md_operate 9 = .ok (.bipush 63, 2) := by decide +kernel
theorem d_Md_operate_11 : decode b_Md_operate 11 = .ok (.iand, 1) := by decide +kernel
theorem d_Md_operate_12 : decode b_Md_operate 12 = .ok (.invokevirtual 95, 3) := by decide +kernel
theorem d_Md_operate_15 : decode b_Md_operate 15 = .ok (.goto 121, 3) := by decide +kernel
theorem d_Md_operate_18 : decode b_Md_operate 18 = .ok (.iload_n 1, 1) := by decide +kernel
theorem d_Md_operate_19 : decode b_Md_operate 19 = .ok (.iconst 1, 1) := by decide +kernel
theorem d_Md_operate_20 : decode b_Md_operate 20 = .ok (.if_icmp .ne 16, 3) := by decide +kernel
theorem d_Md_operate_23 : decode b_Md_operate 23 = .ok (.aload_n 0, 1) := by decide +kernel
theorem d_Md_operate_24 : decode b_Md_operate 24 = .ok (.aload_n 0, 1) := by decide +kernel
theorem d_Md_operate_25 : decode b_Md_operate 25 = .ok (.bipush 16, 2) := by decide +kernel
theorem d_Md_operate_27 : decode b_Md_operate 27 = .ok (.invokevirtual 85, 3) := by decide +kernel
theorem d_Md_operate_30 : decode b_Md_operate 30 = .ok (.invokevirtual 98, 3) := by decide +kernel
theorem d_Md_operate_33 : decode b_Md_operate 33 = .ok (.goto 103, 3) := by decide +kernel
theorem d_Md_operate_36 : decode b_Md_operate 36 = .ok (.iload_n 1, 1) := by decide +kernel
theorem d_Md_operate_37 : decode b_Md_operate 37 = .ok (.bipush 17, 2) := by decide +kernel
theorem d_Md_operate_39 : decode b_Md_operate 39 = .ok (.if_icmp .ne 10, 3) := by decide +kernel
theorem d_Md_operate_42 : decode b_Md_operate 42 = .ok (.aload_n 0, 1) := by decide +kernel
theorem d_Md_operate_43 : decode b_Md_operate 43 = .ok (.invokevirtual 101, 3) := by decide +kernel
theorem d_Md_operate_46 : decode b_Md_operate 46 = .ok (.goto 90, 3) := by decide +kernel
theorem d_Md_operate_49 : decode b_Md_operate 49 = .ok (.iload_n 1, 1) := by decide +kernel
theorem d_Md_operate_50 : decode b_Md_operate 50 = .ok (.bipush 28, 2) := by decide +kernel
theorem d_Md_operate_52 : decode b_Md_operate 52 = .ok (.if_icmp .ne 17, 3) := by decide +kernel
theorem d_Md_operate_55 : decode b_Md_operate 55 = .ok (.aload_n 0, 1) := by decide +kernel
theorem d_Md_operate_56 : decode b_Md_operate 56 = .ok (.aload_n 0, 1) := by decide +kernel
theorem d_Md_operate_57 : decode b_Md_operate 57 = .ok (.getfield 82, 3) := by decide +kernel
theorem d_Md_operate_60 : decode b_Md_operate 60 = .ok (.bipush 63, 2) := by decide +kernel
theorem d_Md_operate_62 : decode b_Md_operate 62 = .ok (.iand, 1) := by decide +kernel
theorem d_Md_operate_63 : decode b_Md_operate 63 = .ok (.invokevirtual 104, 3) := by decide +kernel
theorem d_Md_operate_66 : decode b_Md_operate 66 = .ok (.goto 70, 3) := by decide +kernel
theorem d_Md_operate_69 : decode b_Md_operate 69 = .ok (.iload_n 1, 1) := by decide +kernel
theorem d_Md_operate_70 : decode b_Md_operate 70 = .ok (.bipush 8, 2) := by decide +kernel
theorem d_Md_operate_72 : decode b_Md_operate 72 = .ok (.if_icmp .ge 11, 3) := by decide +kernel
theorem d_Md_operate_75 : decode b_Md_operate 75 = .ok (.aload_n 0, 1) := by decide +kernel
theorem d_Md_operate_76 : decode b_Md_operate 76 = .ok (.iload_n 1, 1) := by decide +kernel
theorem d_Md_operate_77 : decode b_Md_operate 77 = .ok (.invokevirtual 107, 3) := by decide +kernel
theorem d_Md_operate_80 : decode b_Md_operate 80 = .ok (.goto 56, 3) := by decide +kernel
theorem d_Md_operate_83 : decode b_Md_operate 83 = .ok (.iload_n 1, 1) := by decide +kernel
theorem d_Md_operate_84 : decode b_Md_operate 84 = .ok (.bipush 16, 2) := by decide +kernel
theorem d_Md_operate_86 : decode b_Md_operate 86 = .ok (.if_icmp .ge 11, 3) := by decide +kernel
theorem d_Md_operate_89 : decode b_Md_operate 89 = .ok (.aload_n 0, 1) := by decide +kernel
theorem d_Md_operate_90 : decode b_Md_operate 90 = .ok (.iload_n 1, 1) := by decide +kernel
theorem d_Md_operate_91 : decode b_Md_operate 91 = .ok (.invokevirtual 110, 3) := by decide +kernel
theorem d_Md_operate_94 : decode b_Md_operate 94 = .ok (.goto 42, 3) := by decide +kernel
theorem d_Md_operate_97 : decode b_Md_operate 97 = .ok (.iload_n 1, 1) := by decide +kernel
theorem d_Md_operate_98 : decode b_Md_operate 98 = .ok (.bipush 20, 2) := by decide +kernel
theorem d_Md_operate_100 : decode b_Md_operate 100 = .ok (.if_icmp .lt 17, 3) := by decide +kernel
theorem d_Md_operate_103 : decode b_Md_operate 103 = .ok (.iload_n 1, 1) := by decide +kernel
theorem d_Md_operate_104 : decode b_Md_operate 104 = .ok (.bipush 24, 2) := by decide +kernel
theorem d_Md_operate_106 : decode b_Md_operate 106 = .ok (.if_icmp .ge 11, 3) := by decide +kernel
theorem d_Md_operate_109 : decode b_Md_operate 109 = .ok (.aload_n 0, 1) := by decide +kernel
theorem d_Md_operate_110 : decode b_Md_operate 110 = .ok (.iload_n 1, 1) := by decide +kernel
theorem d_Md_operate_111 : decode b_Md_operate 111 = .ok (.invokevirtual 107, 3) := by decide +kernel
theorem d_Md_operate_114 : decode b_Md_operate 114 = .ok (.goto 22, 3) := by decide +kernel
theorem d_Md_operate_117 : decode b_Md_operate 117 = .ok (.iload_n 1, 1) := by decide +kernel
theorem d_Md_operate_118 : decode b_Md_operate 118 = .ok (.bipush 32, 2) := by decide +kernel
theorem d_Md_operate_120 : decode b_Md_operate 120 = .ok (.if_icmp .lt 11, 3) := by decide +kernel
theorem d_Md_operate_123 : decode b_Md_operate 123 = .ok (.aload_n 0, 1) := by decide +kernel
theorem d_Md_operate_124 : decode b_Md_operate 124 = .ok (.iload_n 1, 1) := by decide +kernel
theorem d_Md_operate_125 : decode b_Md_operate 125 = .ok (.invokevirtual 113, 3) := by decide +kernel
theorem d_Md_operate_128 : decode b_Md_operate 128 = .ok (.goto 8, 3) := by decide +kernel
theorem d_Md_operate_131 : decode b_Md_operate 131 = .ok (.aload_n 0, 1) := by decide +kernel
theorem d_Md_operate_132 : decode b_Md_operate 132 = .ok (.iconst 3, 1) := by decide +kernel
theorem d_Md_operate_133 : decode b_Md_operate 133 = .ok (.invokevirtual 116, 3) := by decide +kernel
theorem d_Md_operate_136 : decode b_Md_operate 136 = .ok (.return_, 1) := by decide +kernel
theorem d_Md_moveOn_0 : decode b_Md_moveOn 0 = .ok (.aload_n 0, 1) := by decide +kernel
theorem d_Md_moveOn_1 : decode b_Md_moveOn 1 = .ok (.getfield 25, 3) := by decide +kernel
theorem d_Md_moveOn_4 : decode b_Md_moveOn 4 = .ok (.istore_n 1, 1) := by decide +kernel
theorem d_Md_moveOn_5 : decode b_Md_moveOn 5 = .ok (.aload_n 0, 1) := by decide +kernel
theorem d_Md_moveOn_6 : decode b_Md_moveOn 6 = .ok (.getfield 29, 3) := by decide +kernel
theorem d_Md_moveOn_9 : decode b_Md_moveOn 9 = .ok (.iconst 0, 1) := by decide +kernel
theorem d_Md_moveOn_10 : decode b_Md_moveOn 10 = .ok (.dup2, 1) := by decide +kernel
theorem d_Md_moveOn_11 : decode b_Md_moveOn 11 = .ok (.iaload, 1) := by decide +kernel
theorem d_Md_moveOn_12 : decode b_Md_moveOn 12 = .ok (.iconst 1, 1) := by decide +kernel
theorem d_Md_moveOn_13 : decode b_Md_moveOn 13 = .ok (.iadd, 1) := by decide +kernel
theorem d_Md_moveOn_14 : decode b_Md_moveOn 14 = .ok (.iastore, 1) := by decide +kernel
theorem d_Md_moveOn_15 : decode b_Md_moveOn 15 = .ok (.aload_n 0, 1) := by decide +kernel
theorem d_Md_moveOn_16 : decode b_Md_moveOn 16 = .ok (.getfield 76, 3) := by decide +kernel
theorem d_Md_moveOn_19 : decode b_Md_moveOn 19 = .ok (.ifCond .eq 40, 3) := by decide +kernel
theorem d_Md_moveOn_22 : decode b_Md_moveOn 22 = .ok (.aload_n 0, 1) := by decide +kernel
theorem d_Md_moveOn_23 : decode b_Md_moveOn 23 = .ok (.getfield 29, 3) := by decide +kernel
theorem d_Md_moveOn_26 : decode b_Md_moveOn 26 = .ok (.iconst 4, 1) := by decide +kernel
theorem d_Md_moveOn_27 : decode b_Md_moveOn 27 = .ok (.dup2, 1) := by decide +kernel
theorem d_Md_moveOn_28 : decode b_Md_moveOn 28 = .ok (.iaload, 1) := by decide +kernel
theorem d_Md_moveOn_29 : decode b_Md_moveOn 29 = .ok (.iconst 1, 1) := by decide +kernel
theorem d_Md_moveOn_30 : decode b_Md_moveOn 30 = .ok (.iadd, 1) := by decide +kernel
theorem d_Md_moveOn_31 : decode b_Md_moveOn 31 = .ok (.iastore, 1) := by decide +kernel
theorem d_Md_moveOn_32 : decode b_Md_moveOn 32 = .ok (.aload_n 0, 1) := by decide +kernel
theorem d_Md_moveOn_33 : decode b_Md_moveOn 33 = .ok (.aload_n 0, 1) := by decide +kernel
theorem d_Md_moveOn_34 : decode b_Md_moveOn 34 = .ok (.getfield 25, 3) := by decide +kernel
theorem d_Md_moveOn_37 : decode b_Md_moveOn 37 = .ok (.iconst 4, 1) := by decide +kernel
theorem d_Md_moveOn_38 : decode b_Md_moveOn 38 = .ok (.iadd, 1) := by decide +kernel
theorem d_Md_moveOn_39 : decode b_Md_moveOn 39 = .ok (.putfield 54, 3) := by decide +kernel
theorem d_Md_moveOn_42 : decode b_Md_moveOn 42 = .ok (.aload_n 0, 1) := by decide +kernel
theorem d_Md_moveOn_43 : decode b_Md_moveOn 43 = .ok (.aload_n 0, 1) := by decide +kernel
theorem d_Md_moveOn_44 : decode b_Md_moveOn 44 = .ok (.getfield 25, 3) := by decide +kernel
theorem d_Md_moveOn_47 : decode b_Md_moveOn 47 = .ok (.bipush 8, 2) := by decide +kernel
theorem d_Md_moveOn_49 : decode b_Md_moveOn 49 = .ok (.iadd, 1) := by decide +kernel
theorem d_Md_moveOn_50 : decode b_Md_moveOn 50 = .ok (.putfield 25, 3) := by decide +kernel
theorem d_Md_moveOn_53 : decode b_Md_moveOn 53 = .ok (.aload_n 0, 1) := by decide +kernel
theorem d_Md_moveOn_54 : decode b_Md_moveOn 54 = .ok (.iconst 0, 1) := by decide +kernel
theorem d_Md_moveOn_55 : decode b_Md_moveOn 55 = .ok (.putfield 57, 3) := by decide +kernel
theorem d_Md_moveOn_58 : decode b_Md_moveOn 58 = .ok (.return_, 1) := by decide +kernel
theorem d_Md_moveOn_59 : decode b_Md_moveOn 59 = .ok (.aload_n 0, 1) := by decide +kernel
theorem d_Md_moveOn_60 : decode b_Md_moveOn 60 = .ok (.aload_n 0, 1) := by decide +kernel
theorem d_Md_moveOn_61 : decode b_Md_moveOn 61 = .ok (.getfield 70, 3) := by decide +kernel
theorem d_Md_moveOn_64 : decode b_Md_moveOn 64 = .ok (.ifCond .eq 10, 3) := by decide +kernel
theorem d_Md_moveOn_67 : decode b_Md_moveOn 67 = .ok (.aload_n 0, 1) := by decide +kernel
theorem d_Md_moveOn_68 : decode b_Md_moveOn 68 = .ok (.getfield 92, 3) := by decide +kernel
theorem d_Md_moveOn_71 : decode b_Md_moveOn 71 = .ok (.goto 9, 3) := by decide +kernel
theorem d_Md_moveOn_74 : decode b_Md_moveOn 74 = .ok (.aload_n 0, 1) := by decide +kernel
theorem d_Md_moveOn_75 : decode b_Md_moveOn 75 = .ok (.getfield 25, 3) := by decide +kernel
theorem d_Md_moveOn_78 : decode b_Md_moveOn 78 = .ok (.iconst 4, 1) := by decide +kernel
theorem d_Md_moveOn_79 : decode b_Md_moveOn 79 = .ok (.iadd, 1) := by decide +kernel
theorem d_Md_moveOn_80 : decode b_Md_moveOn 80 = .ok (.putfield 25, 3) := by decide +kernel
theorem d_Md_moveOn_83 : decode b_Md_moveOn 83 = .ok (.aload_n 0, 1) := by decide +kernel
theorem d_Md_moveOn_84 : decode b_Md_moveOn 84 = .ok (.getfield 29, 3) := by decide +kernel
theorem d_Md_moveOn_87 : decode b_Md_moveOn 87 = .ok (.iconst 3, 1) := by decide +kernel
theorem d_Md_moveOn_88 : decode b_Md_moveOn 88 = .ok (.dup2, 1) := by decide +kernel
theorem d_Md_moveOn_89 : decode b_Md_moveOn 89 = .ok (.iaload, 1) := by decide +kernel
theorem d_Md_moveOn_90 : decode b_Md_moveOn 90 = .ok (.aload_n 0, 1) := by decide +kernel
theorem d_Md_moveOn_91 : decode b_Md_moveOn 91 = .ok (.getfield 70, 3) := by decide +kernel
theorem d_Md_moveOn_94 : decode b_Md_moveOn 94 = .ok (.ifCond .eq 7, 3) := by decide +kernel
theorem d_Md_moveOn_97 : decode b_Md_moveOn 97 = .ok (.iconst 1, 1) := by decide +kernel
theorem d_Md_moveOn_98 : decode b_Md_moveOn 98 = .ok (.goto 4, 3) := by decide +kernel
theorem d_Md_moveOn_101 : decode b_Md_moveOn 101 = .ok (.iconst 0, 1) := by decide +kernel
theorem d_Md_moveOn_102 : decode b_Md_moveOn 102 = .ok (.iadd, 1) := by decide +kernel
theorem d_Md_moveOn_103 : decode b_Md_moveOn 103 = .ok (.iastore, 1) := by decide +kernel
theorem d_Md_moveOn_104 : decode b_Md_moveOn 104 = .ok (.aload_n 0, 1) := by decide +kernel
theorem d_Md_moveOn_105 : decode b_Md_moveOn 105 = .ok (.iload_n 1, 1) := by decide +kernel
theorem d_Md_moveOn_106 : decode b_Md_moveOn 106 = .ok (.putfield 54, 3) := by decide +kernel
theorem d_Md_moveOn_109 : decode b_Md_moveOn 109 = .ok (.aload_n 0, 1) := by decide +kernel
theorem d_Md_moveOn_110 : decode b_Md_moveOn 110 = .ok (.aload_n 0, 1) := by decide +kernel
theorem d_Md_moveOn_111 : decode b_Md_moveOn 111 = .ok (.getfield 73, 3) := by decide +kernel
theorem d_Md_moveOn_114 : decode b_Md_moveOn 114 = .ok (.putfield 57, 3) := by decide +kernel
theorem d_Md_moveOn_117 : decode b_Md_moveOn 117 = .ok (.return_, 1) := by decide +kernel
theorem d_Md_step_0 : decode b_Md_step 0 = .ok (.aload_n 0, 1) := by decide +kernel
theorem d_Md_step_1 : decode b_Md_step 1 = .ok (.aload_n 0, 1) := by decide +kernel
theorem d_Md_step_2 : decode b_Md_step 2 = .ok (.getfield 54, 3) := by decide +kernel
theorem d_Md_step_5 : decode b_Md_step 5 = .ok (.iconst 4, 1) := by decide +kernel
theorem d_Md_step_6 : decode b_Md_step 6 = .ok (.invokevirtual 38, 3) := by decide +kernel
theorem d_Md_step_9 : decode b_Md_step 9 = .ok (.ifCond .ne 9, 3) := by decide +kernel
theorem d_Md_step_12 : decode b_Md_step 12 = .ok (.aload_n 0, 1) := by decide +kernel
theorem d_Md_step_13 : decode b_Md_step 13 = .ok (.iconst 1, 1) := by decide +kernel
theorem d_Md_step_14 : decode b_Md_step 14 = .ok (.putfield 63, 3) := by decide +kernel
theorem d_Md_step_17 : decode b_Md_step 17 = .ok (.return_, 1) := by decide +kernel
theorem d_Md_step_18 : decode b_Md_step 18 = .ok (.aload_n 0, 1) := by decide +kernel
theorem d_Md_step_19 : decode b_Md_step 19 = .ok (.aload_n 0, 1) := by decide +kernel
theorem d_Md_step_20 : decode b_Md_step 20 = .ok (.aload_n 0, 1) := by decide +kernel
theorem d_Md_step_21 : decode b_Md_step 21 = .ok (.getfield 54, 3) := by decide +kernel
theorem d_Md_step_24 : decode b_Md_step 24 = .ok (.iconst 4, 1) := by decide +kernel
theorem d_Md_step_25 : decode b_Md_step 25 = .ok (.invokevirtual 46, 3) := by decide +kernel
theorem d_Md_step_28 : decode b_Md_step 28 = .ok (.putfield 82, 3) := by decide +kernel
theorem d_Md_step_31 : decode b_Md_step 31 = .ok (.aload_n 0, 1) := by decide +kernel
theorem d_Md_step_32 : decode b_Md_step 32 = .ok (.iconst 0, 1) := by decide +kernel
theorem d_Md_step_33 : decode b_Md_step 33 = .ok (.putfield 70, 3) := by decide +kernel
theorem d_Md_step_36 : decode b_Md_step 36 = .ok (.aload_n 0, 1) := by decide +kernel
theorem d_Md_step_37 : decode b_Md_step 37 = .ok (.iconst 0, 1) := by decide +kernel
theorem d_Md_step_38 : decode b_Md_step 38 = .ok (.putfield 73, 3) := by decide +kernel
theorem d_Md_step_41 : decode b_Md_step 41 = .ok (.aload_n 0, 1) := by decide +kernel
theorem d_Md_step_42 : decode b_Md_step 42 = .ok (.iconst 0, 1) := by decide +kernel
theorem d_Md_step_43 : decode b_Md_step 43 = .ok (.putfield 76, 3) := by decide +kernel
theorem d_Md_step_46 : decode b_Md_step 46 = .ok (.aload_n 0, 1) := by decide +kernel
theorem d_Md_step_47 : decode b_Md_step 47 = .ok (.aload_n 0, 1) := by decide +kernel
theorem d_Md_step_48 : decode b_Md_step 48 = .ok (.getfield 82, 3) := by decide +kernel
theorem d_Md_step_51 : decode b_Md_step 51 = .ok (.bipush 26, 2) := by decide +kernel
theorem d_Md_step_53 : decode b_Md_step 53 = .ok (.iushr, 1) := by decide +kernel
theorem d_Md_step_54 : decode b_Md_step 54 = .ok (.invokevirtual 88, 3) := by decide +kernel
theorem d_Md_step_57 : decode b_Md_step 57 = .ok (.aload_n 0, 1) := by decide +kernel
theorem d_Md_step_58 : decode b_Md_step 58 = .ok (.getfield 63, 3) := by decide +kernel
theorem d_Md_step_61 : decode b_Md_step 61 = .ok (.ifCond .le 4, 3) := by decide +kernel
theorem d_Md_step_64 : decode b_Md_step 64 = .ok (.return_, 1) := by decide +kernel
theorem d_Md_step_65 : decode b_Md_step 65 = .ok (.aload_n 0, 1) := by decide +kernel
theorem d_Md_step_66 : decode b_Md_step 66 = .ok (.invokevirtual 79, 3) := by decide +kernel
theorem d_Md_step_69 : decode b_Md_step 69 = .ok (.return_, 1) := by decide +kernel
theorem d_Md_run_0 : decode b_Md_run 0 = .ok (.aload_n 0, 1) := by decide +kernel
theorem d_Md_run_1 : decode b_Md_run 1 = .ok (.iconst 0, 1) := by decide +kernel
theorem d_Md_run_2 : decode b_Md_run 2 = .ok (.putfield 35, 3) := by decide +kernel
theorem d_Md_run_5 : decode b_Md_run 5 = .ok (.iload_n 1, 1) := by decide +kernel
theorem d_Md_run_6 : decode b_Md_run 6 = .ok (.iconst 1, 1) := by decide +kernel
theorem d_Md_run_7 : decode b_Md_run 7 = .ok (.if_icmp .lt 10, 3) := by decide +kernel
theorem d_Md_run_10 : decode b_Md_run 10 = .ok (.iload_n 1, 1) := by decide +kernel
theorem d_Md_run_11 : decode b_Md_run 11 = .ok (.sipush 10000, 3) := by decide +kernel
theorem d_Md_run_14 : decode b_Md_run 14 = .ok (.if_icmp .le 9, 3) := by decide +kernel
theorem d_Md_run_17 : decode b_Md_run 17 = .ok (.aload_n 0, 1) := by decide +kernel
theorem d_Md_run_18 : decode b_Md_run 18 = .ok (.iconst 1, 1) := by decide +kernel
theorem d_Md_run_19 : decode b_Md_run 19 = .ok (.invokevirtual 42, 3) := by decide +kernel
theorem d_Md_run_22 : decode b_Md_run 22 = .ok (.ireturn, 1) := by decide +kernel
theorem d_Md_run_23 : decode b_Md_run 23 = .ok (.aload_n 0, 1) := by decide +kernel
theorem d_Md_run_24 : decode b_Md_run 24 = .ok (.getfield 63, 3) := by decide +kernel
theorem d_Md_run_27 : decode b_Md_run 27 = .ok (.ifCond .le 9, 3) := by decide +kernel
theorem d_Md_run_30 : decode b_Md_run 30 = .ok (.aload_n 0, 1) := by decide +kernel
theorem d_Md_run_31 : decode b_Md_run 31 = .ok (.iconst 2, 1) := by decide +kernel
theorem d_Md_run_32 : decode b_Md_run 32 = .ok (.invokevirtual 42, 3) := by decide +kernel
theorem d_Md_run_35 : decode b_Md_run 35 = .ok (.ireturn, 1) := by decide +kernel
theorem d_Md_run_36 : decode b_Md_run 36 = .ok (.iconst 0, 1) := by decide +kernel
theorem d_Md_run_37 : decode b_Md_run 37 = .ok (.istore_n 2, 1) := by decide +kernel
theorem d_Md_run_38 : decode b_Md_run 38 = .ok (.iload_n 2, 1) := by decide +kernel
theorem d_Md_run_39 : decode b_Md_run 39 = .ok (.iload_n 1, 1) := by decide +kernel
theorem d_Md_run_40 : decode b_Md_run 40 = .ok (.if_icmp .ge 27, 3) := by decide +kernel
theorem d_Md_run_43 : decode b_Md_run 43 = .ok (.aload_n 0, 1) := by decide +kernel
theorem d_Md_run_44 : decode b_Md_run 44 = .ok (.getfield 63, 3) := by decide +kernel
theorem d_Md_run_47 : decode b_Md_run 47 = .ok (.ifCond .ne 20, 3) := by decide +kernel
theorem d_Md_run_50 : decode b_Md_run 50 = .ok (.aload_n 0, 1) := by decide +kernel
theorem d_Md_run_51 : decode b_Md_run 51 = .ok (.invokevirtual 66, 3) := by decide +kernel
theorem d_Md_run_54 : decode b_Md_run 54 = .ok (.aload_n 0, 1) := by decide +kernel
theorem d_Md_run_55 : decode b_Md_run 55 = .ok (.getfield 63, 3) := by decide +kernel
theorem d_Md_run_58 : decode b_Md_run 58 = .ok (.ifCond .ne (-20), 3) := by decide +kernel
theorem d_Md_run_61 : decode b_Md_run 61 = .ok (.iinc 2 1, 3) := by decide +kernel
theorem d_Md_run_64 : decode b_Md_run 64 = .ok (.goto (-26), 3) := by decide +kernel
theorem d_Md_run_67 : decode b_Md_run 67 = .ok (.iload_n 2, 1) := by decide +kernel
theorem d_Md_run_68 : decode b_Md_run 68 = .ok (.ireturn, 1) := by decide +kernel
theorem d_Md_end_0 : decode b_Md_end 0 = .ok (.aload_n 0, 1) := by decide +kernel
theorem d_Md_end_1 : decode b_Md_end 1 = .ok (.iconst 0, 1) := by decide +kernel
theorem d_Md_end_2 : decode b_Md_end 2 = .ok (.putfield 35, 3) := by decide +kernel
theorem d_Md_end_5 : decode b_Md_end 5 = .ok (.aload_n 0, 1) := by decide +kernel
theorem d_Md_end_6 : decode b_Md_end 6 = .ok (.getfield 63, 3) := by decide +kernel
theorem d_Md_end_9 : decode b_Md_end 9 = .ok (.ireturn, 1) := by decide +kernel
theorem d_Md_pass_0 : decode b_Md_pass 0 = .ok (.aload_n 0, 1) := by decide +kernel
theorem d_Md_pass_1 : decode b_Md_pass 1 = .ok (.iconst 0, 1) := by decide +kernel
theorem d_Md_pass_2 : decode b_Md_pass 2 = .ok (.putfield 35, 3) := by decide +kernel
theorem d_Md_pass_5 : decode b_Md_pass 5 = .ok (.aload_n 0, 1) := by decide +kernel
theorem d_Md_pass_6 : decode b_Md_pass 6 = .ok (.getfield 63, 3) := by decide +kernel
theorem d_Md_pass_9 : decode b_Md_pass 9 = .ok (.bipush 6, 2) := by decide +kernel
theorem d_Md_pass_11 : decode b_Md_pass 11 = .ok (.if_icmp .eq 18, 3) := by decide +kernel
theorem d_Md_pass_14 : decode b_Md_pass 14 = .ok (.aload_n 0, 1) := by decide +kernel
theorem d_Md_pass_15 : decode b_Md_pass 15 = .ok (.getfield 63, 3) := by decide +kernel
theorem d_Md_pass_18 : decode b_Md_pass 18 = .ok (.bipush 7, 2) := by decide +kernel
theorem d_Md_pass_20 : decode b_Md_pass 20 = .ok (.if_icmp .eq 9, 3) := by decide +kernel
theorem d_Md_pass_23 : decode b_Md_pass 23 = .ok (.aload_n 0, 1) := by decide +kernel
theorem d_Md_pass_24 : decode b_Md_pass 24 = .ok (.iconst 1, 1) := by decide +kernel
theorem d_Md_pass_25 : decode b_Md_pass 25 = .ok (.invokevirtual 42, 3) := by decide +kernel
theorem d_Md_pass_28 : decode b_Md_pass 28 = .ok (.ireturn, 1) := by decide +kernel
theorem d_Md_pass_29 : decode b_Md_pass 29 = .ok (.aload_n 0, 1) := by decide +kernel
theorem d_Md_pass_30 : decode b_Md_pass 30 = .ok (.aload_n 0, 1) := by decide +kernel
theorem d_Md_pass_31 : decode b_Md_pass 31 = .ok (.getfield 54, 3) := by decide +kernel
theorem d_Md_pass_34 : decode b_Md_pass 34 = .ok (.iconst 4, 1) := by decide +kernel
theorem d_Md_pass_35 : decode b_Md_pass 35 = .ok (.invokevirtual 46, 3) := by decide +kernel
theorem d_Md_pass_38 : decode b_Md_pass 38 = .ok (.bipush 6, 2) := by decide +kernel
theorem d_Md_pass_40 : decode b_Md_pass 40 = .ok (.iushr, 1) := by decide +kernel
theorem d_Md_pass_41 : decode b_Md_pass 41 = .ok (.ldc 69, 2) := by decide +kernel
theorem d_Md_pass_43 : decode b_Md_pass 43 = .ok (.iand, 1) := by decide +kernel
theorem d_Md_pass_44 : decode b_Md_pass 44 = .ok (.istore_n 1, 1) := by decide +kernel
theorem d_Md_pass_45 : decode b_Md_pass 45 = .ok (.aload_n 0, 1) := by decide +kernel
theorem d_Md_pass_46 : decode b_Md_pass 46 = .ok (.iconst 0, 1) := by decide +kernel
theorem d_Md_pass_47 : decode b_Md_pass 47 = .ok (.putfield 63, 3) := by decide +kernel
theorem d_Md_pass_50 : decode b_Md_pass 50 = .ok (.aload_n 0, 1) := by decide +kernel
theorem d_Md_pass_51 : decode b_Md_pass 51 = .ok (.iconst 0, 1) := by decide +kernel
theorem d_Md_pass_52 : decode b_Md_pass 52 = .ok (.putfield 70, 3) := by decide +kernel
theorem d_Md_pass_55 : decode b_Md_pass 55 = .ok (.aload_n 0, 1) := by decide +kernel
theorem d_Md_pass_56 : decode b_Md_pass 56 = .ok (.iconst 0, 1) := by decide +kernel
theorem d_Md_pass_57 : decode b_Md_pass 57 = .ok (.putfield 73, 3) := by decide +kernel
theorem d_Md_pass_60 : decode b_Md_pass 60 = .ok (.aload_n 0, 1) := by decide +kernel
theorem d_Md_pass_61 : decode b_Md_pass 61 = .ok (.iconst 0, 1) := by decide +kernel
theorem d_Md_pass_62 : decode b_Md_pass 62 = .ok (.putfield 76, 3) := by decide +kernel
theorem d_Md_pass_65 : decode b_Md_pass 65 = .ok (.aload_n 0, 1) := by decide +kernel
theorem d_Md_pass_66 : decode b_Md_pass 66 = .ok (.invokevirtual 79, 3) := by decide +kernel
theorem d_Md_pass_69 : decode b_Md_pass 69 = .ok (.iload_n 1, 1) := by decide +kernel
theorem d_Md_pass_70 : decode b_Md_pass 70 = .ok (.ireturn, 1) := by decide +kernel
theorem d_Md_state_0 : decode b_Md_state 0 = .ok (.aload_n 0, 1) := by decide +kernel
theorem d_Md_state_1 : decode b_Md_state 1 = .ok (.iconst 0, 1) := by decide +kernel
theorem d_Md_state_2 : decode b_Md_state 2 = .ok (.putfield 35, 3) := by decide +kernel
theorem d_Md_state_5 : decode b_Md_state 5 = .ok (.iload_n 1, 1) := by decide +kernel
theorem d_Md_state_6 : decode b_Md_state 6 = .ok (.ifCond .lt 9, 3) := by decide +kernel
theorem d_Md_state_9 : decode b_Md_state 9 = .ok (.iload_n 1, 1) := by decide +kernel
theorem d_Md_state_10 : decode b_Md_state 10 = .ok (.bipush 7, 2) := by decide +kernel
theorem d_Md_state_12 : decode b_Md_state 12 = .ok (.if_icmp .le 9, 3) := by decide +kernel
theorem d_Md_state_15 : decode b_Md_state 15 = .ok (.aload_n 0, 1) := by decide +kernel
theorem d_Md_state_16 : decode b_Md_state 16 = .ok (.iconst 1, 1) := by decide +kernel
theorem d_Md_state_17 : decode b_Md_state 17 = .ok (.invokevirtual 42, 3) := by decide +kernel
theorem d_Md_state_20 : decode b_Md_state 20 = .ok (.ireturn, 1) := by decide +kernel
theorem d_Md_state_21 : decode b_Md_state 21 = .ok (.iload_n 1, 1) := by decide +kernel
theorem d_Md_state_22 : decode b_Md_state 22 = .ok (.ifCond .ne 10, 3) := by decide +kernel
theorem d_Md_state_25 : decode b_Md_state 25 = .ok (.aload_n 0, 1) := by decide +kernel
theorem d_Md_state_26 : decode b_Md_state 26 = .ok (.getfield 54, 3) := by decide +kernel
theorem d_Md_state_29 : decode b_Md_state 29 = .ok (.goto 43, 3) := by decide +kernel
theorem d_Md_state_32 : decode b_Md_state 32 = .ok (.iload_n 1, 1) := by decide +kernel
theorem d_Md_state_33 : decode b_Md_state 33 = .ok (.iconst 1, 1) := by decide +kernel
theorem d_Md_state_34 : decode b_Md_state 34 = .ok (.if_icmp .ne 10, 3) := by decide +kernel
theorem d_Md_state_37 : decode b_Md_state 37 = .ok (.aload_n 0, 1) := by decide +kernel
theorem d_Md_state_38 : decode b_Md_state 38 = .ok (.getfield 25, 3) := by decide +kernel
theorem d_Md_state_41 : decode b_Md_state 41 = .ok (.goto 31, 3) := by decide +kernel
theorem d_Md_state_44 : decode b_Md_state 44 = .ok (.iload_n 1, 1) := by decide +kernel
theorem d_Md_state_45 : decode b_Md_state 45 = .ok (.iconst 2, 1) := by decide +kernel
theorem d_Md_state_46 : decode b_Md_state 46 = .ok (.if_icmp .ne 18, 3) := by decide +kernel
theorem d_Md_state_49 : decode b_Md_state 49 = .ok (.aload_n 0, 1) := by decide +kernel
theorem d_Md_state_50 : decode b_Md_state 50 = .ok (.getfield 57, 3) := by decide +kernel
theorem d_Md_state_53 : decode b_Md_state 53 = .ok (.ifCond .eq 7, 3) := by decide +kernel
theorem d_Md_state_56 : decode b_Md_state 56 = .ok (.iconst 1, 1) := by decide +kernel
theorem d_Md_state_57 : decode b_Md_state 57 = .ok (.goto 15, 3) := by decide +kernel
theorem d_Md_state_60 : decode b_Md_state 60 = .ok (.iconst 0, 1) := by decide +kernel
theorem d_Md_state_61 : decode b_Md_state 61 = .ok (.goto 11, 3) := by decide +kernel
theorem d_Md_state_64 : decode b_Md_state 64 = .ok (.aload_n 0, 1) := by decide +kernel
theorem d_Md_state_65 : decode b_Md_state 65 = .ok (.getfield 29, 3) := by decide +kernel
theorem d_Md_state_68 : decode b_Md_state 68 = .ok (.iload_n 1, 1) := by decide +kernel
theorem d_Md_state_69 : decode b_Md_state 69 = .ok (.iconst 3, 1) := by decide +kernel
theorem d_Md_state_70 : decode b_Md_state 70 = .ok (.isub, 1) := by decide +kernel
theorem d_Md_state_71 : decode b_Md_state 71 = .ok (.iaload, 1) := by decide +kernel
theorem d_Md_state_72 : decode b_Md_state 72 = .ok (.ireturn, 1) := by decide +kernel
