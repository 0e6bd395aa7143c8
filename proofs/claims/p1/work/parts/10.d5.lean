theorem d_Co_held_59 : decode b_Co_held 59 = .ok (.aload_n 0, 1) := by decide +kernel
theorem d_Co_held_60 : decode b_Co_held 60 = .ok (.getfield 23, 3) := by decide +kernel
theorem d_Co_held_63 : decode b_Co_held 63 = .ok (.getfield 137, 3) := by decide +kernel
theorem d_Co_held_66 : decode b_Co_held 66 = .ok (.getfield 141, 3) := by decide +kernel
theorem d_Co_held_69 : decode b_Co_held 69 = .ok (.iload_n 1, 1) := by decide +kernel
theorem d_Co_held_70 : decode b_Co_held 70 = .ok (.bipush 34, 2) := by decide +kernel
theorem d_Co_held_72 : decode b_Co_held 72 = .ok (.isub, 1) := by decide +kernel
theorem d_Co_held_73 : decode b_Co_held 73 = .ok (.bipush 31, 2) := by decide +kernel
theorem d_Co_held_75 : decode b_Co_held 75 = .ok (.iand, 1) := by decide +kernel
theorem d_Co_held_76 : decode b_Co_held 76 = .ok (.iaload, 1) := by decide +kernel
theorem d_Co_held_77 : decode b_Co_held 77 = .ok (.ireturn, 1) := by decide +kernel
theorem d_Co_held_78 : decode b_Co_held 78 = .ok (.aload_n 0, 1) := by decide +kernel
theorem d_Co_held_79 : decode b_Co_held 79 = .ok (.getfield 23, 3) := by decide +kernel
theorem d_Co_held_82 : decode b_Co_held 82 = .ok (.getfield 137, 3) := by decide +kernel
theorem d_Co_held_85 : decode b_Co_held 85 = .ok (.getfield 144, 3) := by decide +kernel
theorem d_Co_held_88 : decode b_Co_held 88 = .ok (.ireturn, 1) := by decide +kernel
theorem d_Co_hold_0 : decode b_Co_hold 0 = .ok (.iload_n 1, 1) := by decide +kernel
theorem d_Co_hold_1 : decode b_Co_hold 1 = .ok (.bipush 32, 2) := by decide +kernel
theorem d_Co_hold_3 : decode b_Co_hold 3 = .ok (.if_icmp .ge 15, 3) := by decide +kernel
theorem d_Co_hold_6 : decode b_Co_hold 6 = .ok (.aload_n 0, 1) := by decide +kernel
theorem d_Co_hold_7 : decode b_Co_hold 7 = .ok (.getfield 23, 3) := by decide +kernel
theorem d_Co_hold_10 : decode b_Co_hold 10 = .ok (.iload_n 1, 1) := by decide +kernel
theorem d_Co_hold_11 : decode b_Co_hold 11 = .ok (.iload_n 2, 1) := by decide +kernel
theorem d_Co_hold_12 : decode b_Co_hold 12 = .ok (.invokevirtual 147, 3) := by decide +kernel
theorem d_Co_hold_15 : decode b_Co_hold 15 = .ok (.goto 86, 3) := by decide +kernel
theorem d_Co_hold_18 : decode b_Co_hold 18 = .ok (.iload_n 1, 1) := by decide +kernel
theorem d_Co_hold_19 : decode b_Co_hold 19 = .ok (.bipush 32, 2) := by decide +kernel
theorem d_Co_hold_21 : decode b_Co_hold 21 = .ok (.if_icmp .ne 17, 3) := by decide +kernel
theorem d_Co_hold_24 : decode b_Co_hold 24 = .ok (.aload_n 0, 1) := by decide +kernel
theorem d_Co_hold_25 : decode b_Co_hold 25 = .ok (.getfield 23, 3) := by decide +kernel
theorem d_Co_hold_28 : decode b_Co_hold 28 = .ok (.getfield 68, 3) := by decide +kernel
theorem d_Co_hold_31 : decode b_Co_hold 31 = .ok (.iload_n 2, 1) := by decide +kernel
theorem d_Co_hold_32 : decode b_Co_hold 32 = .ok (.invokevirtual 149, 3) := by decide +kernel
theorem d_Co_hold_35 : decode b_Co_hold 35 = .ok (.goto 66, 3) := by decide +kernel
theorem d_Co_hold_38 : decode b_Co_hold 38 = .ok (.iload_n 1, 1) := by decide +kernel
theorem d_Co_hold_39 : decode b_Co_hold 39 = .ok (.bipush 33, 2) := by decide +kernel
theorem d_Co_hold_41 : decode b_Co_hold 41 = .ok (.if_icmp .ne 17, 3) := by decide +kernel
theorem d_Co_hold_44 : decode b_Co_hold 44 = .ok (.aload_n 0, 1) := by decide +kernel
theorem d_Co_hold_45 : decode b_Co_hold 45 = .ok (.getfield 23, 3) := by decide +kernel
theorem d_Co_hold_48 : decode b_Co_hold 48 = .ok (.getfield 68, 3) := by decide +kernel
theorem d_Co_hold_51 : decode b_Co_hold 51 = .ok (.iload_n 2, 1) := by decide +kernel
theorem d_Co_hold_52 : decode b_Co_hold 52 = .ok (.invokevirtual 152, 3) := by decide +kernel
theorem d_Co_hold_55 : decode b_Co_hold 55 = .ok (.goto 46, 3) := by decide +kernel
theorem d_Co_hold_58 : decode b_Co_hold 58 = .ok (.iload_n 1, 1) := by decide +kernel
theorem d_Co_hold_59 : decode b_Co_hold 59 = .ok (.bipush 66, 2) := by decide +kernel
theorem d_Co_hold_61 : decode b_Co_hold 61 = .ok (.if_icmp .ge 25, 3) := by decide +kernel
theorem d_Co_hold_64 : decode b_Co_hold 64 = .ok (.aload_n 0, 1) := by decide +kernel
theorem d_Co_hold_65 : decode b_Co_hold 65 = .ok (.getfield 23, 3) := by decide +kernel
theorem d_Co_hold_68 : decode b_Co_hold 68 = .ok (.getfield 137, 3) := by decide +kernel
theorem d_Co_hold_71 : decode b_Co_hold 71 = .ok (.getfield 141, 3) := by decide +kernel
theorem d_Co_hold_74 : decode b_Co_hold 74 = .ok (.iload_n 1, 1) := by decide +kernel
theorem d_Co_hold_75 : decode b_Co_hold 75 = .ok (.bipush 34, 2) := by decide +kernel
theorem d_Co_hold_77 : decode b_Co_hold 77 = .ok (.isub, 1) := by decide +kernel
theorem d_Co_hold_78 : decode b_Co_hold 78 = .ok (.bipush 31, 2) := by decide +kernel
theorem d_Co_hold_80 : decode b_Co_hold 80 = .ok (.iand, 1) := by decide +kernel
theorem d_Co_hold_81 : decode b_Co_hold 81 = .ok (.iload_n 2, 1) := by decide +kernel
theorem d_Co_hold_82 : decode b_Co_hold 82 = .ok (.iastore, 1) := by decide +kernel
theorem d_Co_hold_83 : decode b_Co_hold 83 = .ok (.goto 18, 3) := by decide +kernel
theorem d_Co_hold_86 : decode b_Co_hold 86 = .ok (.aload_n 0, 1) := by decide +kernel
theorem d_Co_hold_87 : decode b_Co_hold 87 = .ok (.getfield 23, 3) := by decide +kernel
theorem d_Co_hold_90 : decode b_Co_hold 90 = .ok (.getfield 137, 3) := by decide +kernel
theorem d_Co_hold_93 : decode b_Co_hold 93 = .ok (.iload_n 2, 1) := by decide +kernel
theorem d_Co_hold_94 : decode b_Co_hold 94 = .ok (.sipush 255, 3) := by decide +kernel
theorem d_Co_hold_97 : decode b_Co_hold 97 = .ok (.iand, 1) := by decide +kernel
theorem d_Co_hold_98 : decode b_Co_hold 98 = .ok (.putfield 144, 3) := by decide +kernel
theorem d_Co_hold_101 : decode b_Co_hold 101 = .ok (.return_, 1) := by decide +kernel
