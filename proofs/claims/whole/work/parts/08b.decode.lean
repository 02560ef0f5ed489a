theorem dX9_init_0 : decode cX9_init 0 = .ok (.aload_n 0, 1) := by decide +kernel
theorem dX9_init_1 : decode cX9_init 1 = .ok (.invokespecial 1, 3) := by decide +kernel
theorem dX9_init_4 : decode cX9_init 4 = .ok (.aload_n 0, 1) := by decide +kernel
theorem dX9_init_5 : decode cX9_init 5 = .ok (.sipush 602, 3) := by decide +kernel
theorem dX9_init_8 : decode cX9_init 8 = .ok (.newarray .int, 2) := by decide +kernel
theorem dX9_init_10 : decode cX9_init 10 = .ok (.putfield 7, 3) := by decide +kernel
theorem dX9_init_13 : decode cX9_init 13 = .ok (.aload_n 0, 1) := by decide +kernel
theorem dX9_init_14 : decode cX9_init 14 = .ok (.sipush 602, 3) := by decide +kernel
theorem dX9_init_17 : decode cX9_init 17 = .ok (.newarray .int, 2) := by decide +kernel
theorem dX9_init_19 : decode cX9_init 19 = .ok (.putfield 13, 3) := by decide +kernel
theorem dX9_init_22 : decode cX9_init 22 = .ok (.aload_n 0, 1) := by decide +kernel
theorem dX9_init_23 : decode cX9_init 23 = .ok (.sipush 602, 3) := by decide +kernel
theorem dX9_init_26 : decode cX9_init 26 = .ok (.newarray .int, 2) := by decide +kernel
theorem dX9_init_28 : decode cX9_init 28 = .ok (.putfield 16, 3) := by decide +kernel
theorem dX9_init_31 : decode cX9_init 31 = .ok (.aload_n 0, 1) := by decide +kernel
theorem dX9_init_32 : decode cX9_init 32 = .ok (.sipush 2408, 3) := by decide +kernel
theorem dX9_init_35 : decode cX9_init 35 = .ok (.newarray .int, 2) := by decide +kernel
theorem dX9_init_37 : decode cX9_init 37 = .ok (.putfield 19, 3) := by decide +kernel
theorem dX9_init_40 : decode cX9_init 40 = .ok (.aload_n 0, 1) := by decide +kernel
theorem dX9_init_41 : decode cX9_init 41 = .ok (.bipush 60, 2) := by decide +kernel
theorem dX9_init_43 : decode cX9_init 43 = .ok (.newarray .int, 2) := by decide +kernel
theorem dX9_init_45 : decode cX9_init 45 = .ok (.putfield 22, 3) := by decide +kernel
theorem dX9_init_48 : decode cX9_init 48 = .ok (.aload_n 0, 1) := by decide +kernel
theorem dX9_init_49 : decode cX9_init 49 = .ok (.iconst 3, 1) := by decide +kernel
theorem dX9_init_50 : decode cX9_init 50 = .ok (.newarray .int, 2) := by decide +kernel
theorem dX9_init_52 : decode cX9_init 52 = .ok (.putfield 25, 3) := by decide +kernel
theorem dX9_init_55 : decode cX9_init 55 = .ok (.aload_n 0, 1) := by decide +kernel
theorem dX9_init_56 : decode cX9_init 56 = .ok (.getfield 7, 3) := by decide +kernel
theorem dX9_init_59 : decode cX9_init 59 = .ok (.iconst 0, 1) := by decide +kernel
theorem dX9_init_60 : decode cX9_init 60 = .ok (.bipush 20, 2) := by decide +kernel
theorem dX9_init_62 : decode cX9_init 62 = .ok (.iastore, 1) := by decide +kernel
theorem dX9_init_63 : decode cX9_init 63 = .ok (.aload_n 0, 1) := by decide +kernel
theorem dX9_init_64 : decode cX9_init 64 = .ok (.getfield 7, 3) := by decide +kernel
theorem dX9_init_67 : decode cX9_init 67 = .ok (.iconst 1, 1) := by decide +kernel
theorem dX9_init_68 : decode cX9_init 68 = .ok (.bipush 7, 2) := by decide +kernel
theorem dX9_init_70 : decode cX9_init 70 = .ok (.iastore, 1) := by decide +kernel
theorem dX9_init_71 : decode cX9_init 71 = .ok (.aload_n 0, 1) := by decide +kernel
theorem dX9_init_72 : decode cX9_init 72 = .ok (.getfield 7, 3) := by decide +kernel
theorem dX9_init_75 : decode cX9_init 75 = .ok (.iconst 2, 1) := by decide +kernel
theorem dX9_init_76 : decode cX9_init 76 = .ok (.iconst 1, 1) := by decide +kernel
theorem dX9_init_77 : decode cX9_init 77 = .ok (.iastore, 1) := by decide +kernel
theorem dX9_init_78 : decode cX9_init 78 = .ok (.aload_n 0, 1) := by decide +kernel
theorem dX9_init_79 : decode cX9_init 79 = .ok (.getfield 7, 3) := by decide +kernel
theorem dX9_init_82 : decode cX9_init 82 = .ok (.iconst 3, 1) := by decide +kernel
theorem dX9_init_83 : decode cX9_init 83 = .ok (.iconst 2, 1) := by decide +kernel
theorem dX9_init_84 : decode cX9_init 84 = .ok (.iastore, 1) := by decide +kernel
theorem dX9_init_85 : decode cX9_init 85 = .ok (.aload_n 0, 1) := by decide +kernel
theorem dX9_init_86 : decode cX9_init 86 = .ok (.getfield 7, 3) := by decide +kernel
theorem dX9_init_89 : decode cX9_init 89 = .ok (.iconst 4, 1) := by decide +kernel
theorem dX9_init_90 : decode cX9_init 90 = .ok (.sipush 600, 3) := by decide +kernel
theorem dX9_init_93 : decode cX9_init 93 = .ok (.iastore, 1) := by decide +kernel
theorem dX9_init_94 : decode cX9_init 94 = .ok (.aload_n 0, 1) := by decide +kernel
theorem dX9_init_95 : decode cX9_init 95 = .ok (.getfield 7, 3) := by decide +kernel
theorem dX9_init_98 : decode cX9_init 98 = .ok (.iconst 5, 1) := by decide +kernel
theorem dX9_init_99 : decode cX9_init 99 = .ok (.bipush 80, 2) := by decide +kernel
theorem dX9_init_101 : decode cX9_init 101 = .ok (.iastore, 1) := by decide +kernel
theorem dX9_init_102 : decode cX9_init 102 = .ok (.aload_n 0, 1) := by decide +kernel
theorem dX9_init_103 : decode cX9_init 103 = .ok (.getfield 7, 3) := by decide +kernel
theorem dX9_init_106 : decode cX9_init 106 = .ok (.bipush 6, 2) := by decide +kernel
theorem dX9_init_108 : decode cX9_init 108 = .ok (.bipush 10, 2) := by decide +kernel
theorem dX9_init_110 : decode cX9_init 110 = .ok (.iastore, 1) := by decide +kernel
theorem dX9_init_111 : decode cX9_init 111 = .ok (.return_, 1) := by decide +kernel
theorem dX9_in_0 : decode cX9_in 0 = .ok (.iload_n 0, 1) := by decide +kernel
theorem dX9_in_1 : decode cX9_in 1 = .ok (.iload_n 1, 1) := by decide +kernel
theorem dX9_in_2 : decode cX9_in 2 = .ok (.if_icmp .lt 12, 3) := by decide +kernel
theorem dX9_in_5 : decode cX9_in 5 = .ok (.iload_n 0, 1) := by decide +kernel
theorem dX9_in_6 : decode cX9_in 6 = .ok (.iload_n 2, 1) := by decide +kernel
theorem dX9_in_7 : decode cX9_in 7 = .ok (.if_icmp .gt 7, 3) := by decide +kernel
theorem dX9_in_10 : decode cX9_in 10 = .ok (.iconst 1, 1) := by decide +kernel
theorem dX9_in_11 : decode cX9_in 11 = .ok (.goto 4, 3) := by decide +kernel
theorem dX9_in_14 : decode cX9_in 14 = .ok (.iconst 0, 1) := by decide +kernel
theorem dX9_in_15 : decode cX9_in 15 = .ok (.ireturn, 1) := by decide +kernel
theorem dX9_bring_0 : decode cX9_bring 0 = .ok (.iconst 0, 1) := by decide +kernel
theorem dX9_bring_1 : decode cX9_bring 1 = .ok (.istore 4, 2) := by decide +kernel
theorem dX9_bring_3 : decode cX9_bring 3 = .ok (.iload 4, 2) := by decide +kernel
theorem dX9_bring_5 : decode cX9_bring 5 = .ok (.sipush 602, 3) := by decide +kernel
theorem dX9_bring_8 : decode cX9_bring 8 = .ok (.if_icmp .ge 21, 3) := by decide +kernel
theorem dX9_bring_11 : decode cX9_bring 11 = .ok (.aload_n 2, 1) := by decide +kernel
theorem dX9_bring_12 : decode cX9_bring 12 = .ok (.iload_n 3, 1) := by decide +kernel
theorem dX9_bring_13 : decode cX9_bring 13 = .ok (.iload 4, 2) := by decide +kernel
theorem dX9_bring_15 : decode cX9_bring 15 = .ok (.iadd, 1) := by decide +kernel
theorem dX9_bring_16 : decode cX9_bring 16 = .ok (.aload_n 0, 1) := by decide +kernel
theorem dX9_bring_17 : decode cX9_bring 17 = .ok (.iload_n 1, 1) := by decide +kernel
theorem dX9_bring_18 : decode cX9_bring 18 = .ok (.iload 4, 2) := by decide +kernel
theorem dX9_bring_20 : decode cX9_bring 20 = .ok (.iadd, 1) := by decide +kernel
theorem dX9_bring_21 : decode cX9_bring 21 = .ok (.iaload, 1) := by decide +kernel
theorem dX9_bring_22 : decode cX9_bring 22 = .ok (.iastore, 1) := by decide +kernel
theorem dX9_bring_23 : decode cX9_bring 23 = .ok (.iinc 4 1, 3) := by decide +kernel
theorem dX9_bring_26 : decode cX9_bring 26 = .ok (.goto (-23), 3) := by decide +kernel
theorem dX9_bring_29 : decode cX9_bring 29 = .ok (.return_, 1) := by decide +kernel
theorem dX9_hold_0 : decode cX9_hold 0 = .ok (.aload_n 0, 1) := by decide +kernel
theorem dX9_hold_1 : decode cX9_hold 1 = .ok (.getfield 7, 3) := by decide +kernel
theorem dX9_hold_4 : decode cX9_hold 4 = .ok (.iconst 0, 1) := by decide +kernel
theorem dX9_hold_5 : decode cX9_hold 5 = .ok (.aload_n 0, 1) := by decide +kernel
theorem dX9_hold_6 : decode cX9_hold 6 = .ok (.getfield 13, 3) := by decide +kernel
theorem dX9_hold_9 : decode cX9_hold 9 = .ok (.iconst 0, 1) := by decide +kernel
theorem dX9_hold_10 : decode cX9_hold 10 = .ok (.invokestatic 28, 3) := by decide +kernel
theorem dX9_hold_13 : decode cX9_hold 13 = .ok (.return_, 1) := by decide +kernel
theorem dX9_ends_0 : decode cX9_ends 0 = .ok (.iload_n 1, 1) := by decide +kernel
theorem dX9_ends_1 : decode cX9_ends 1 = .ok (.ldc 32, 2) := by decide +kernel
theorem dX9_ends_3 : decode cX9_ends 3 = .ok (.if_icmp .gt 11, 3) := by decide +kernel
theorem dX9_ends_6 : decode cX9_ends 6 = .ok (.iload_n 1, 1) := by decide +kernel
theorem dX9_ends_7 : decode cX9_ends 7 = .ok (.ldc 33, 2) := by decide +kernel
theorem dX9_ends_9 : decode cX9_ends 9 = .ok (.if_icmp .lt 5, 3) := by decide +kernel
theorem dX9_ends_12 : decode cX9_ends 12 = .ok (.iload_n 1, 1) := by decide +kernel
theorem dX9_ends_13 : decode cX9_ends 13 = .ok (.ireturn, 1) := by decide +kernel
theorem dX9_ends_14 : decode cX9_ends 14 = .ok (.aload_n 0, 1) := by decide +kernel
theorem dX9_ends_15 : decode cX9_ends 15 = .ok (.getfield 34, 3) := by decide +kernel
theorem dX9_ends_18 : decode cX9_ends 18 = .ok (.iconst 4, 1) := by decide +kernel
theorem dX9_ends_19 : decode cX9_ends 19 = .ok (.if_icmp .ne 44, 3) := by decide +kernel
theorem dX9_ends_22 : decode cX9_ends 22 = .ok (.iconst 0, 1) := by decide +kernel
theorem dX9_ends_23 : decode cX9_ends 23 = .ok (.istore_n 2, 1) := by decide +kernel
theorem dX9_ends_24 : decode cX9_ends 24 = .ok (.iload_n 2, 1) := by decide +kernel
theorem dX9_ends_25 : decode cX9_ends 25 = .ok (.sipush 1806, 3) := by decide +kernel
theorem dX9_ends_28 : decode cX9_ends 28 = .ok (.if_icmp .ge 25, 3) := by decide +kernel
theorem dX9_ends_31 : decode cX9_ends 31 = .ok (.aload_n 0, 1) := by decide +kernel
theorem dX9_ends_32 : decode cX9_ends 32 = .ok (.getfield 19, 3) := by decide +kernel
theorem dX9_ends_35 : decode cX9_ends 35 = .ok (.iload_n 2, 1) := by decide +kernel
theorem dX9_ends_36 : decode cX9_ends 36 = .ok (.aload_n 0, 1) := by decide +kernel
theorem dX9_ends_37 : decode cX9_ends 37 = .ok (.getfield 19, 3) := by decide +kernel
theorem dX9_ends_40 : decode cX9_ends 40 = .ok (.iload_n 2, 1) := by decide +kernel
theorem dX9_ends_41 : decode cX9_ends 41 = .ok (.sipush 602, 3) := by decide +kernel
theorem dX9_ends_44 : decode cX9_ends 44 = .ok (.iadd, 1) := by decide +kernel
theorem dX9_ends_45 : decode cX9_ends 45 = .ok (.iaload, 1) := by decide +kernel
theorem dX9_ends_46 : decode cX9_ends 46 = .ok (.iastore, 1) := by decide +kernel
theorem dX9_ends_47 : decode cX9_ends 47 = .ok (.iinc 2 1, 3) := by decide +kernel
theorem dX9_ends_50 : decode cX9_ends 50 = .ok (.goto (-26), 3) := by decide +kernel
theorem dX9_ends_53 : decode cX9_ends 53 = .ok (.aload_n 0, 1) := by decide +kernel
theorem dX9_ends_54 : decode cX9_ends 54 = .ok (.dup, 1) := by decide +kernel
theorem dX9_ends_55 : decode cX9_ends 55 = .ok (.getfield 34, 3) := by decide +kernel
theorem dX9_ends_58 : decode cX9_ends 58 = .ok (.iconst 1, 1) := by decide +kernel
theorem dX9_ends_59 : decode cX9_ends 59 = .ok (.isub, 1) := by decide +kernel
theorem dX9_ends_60 : decode cX9_ends 60 = .ok (.putfield 34, 3) := by decide +kernel
theorem dX9_ends_63 : decode cX9_ends 63 = .ok (.aload_n 0, 1) := by decide +kernel
theorem dX9_ends_64 : decode cX9_ends 64 = .ok (.getfield 13, 3) := by decide +kernel
theorem dX9_ends_67 : decode cX9_ends 67 = .ok (.iconst 0, 1) := by decide +kernel
theorem dX9_ends_68 : decode cX9_ends 68 = .ok (.aload_n 0, 1) := by decide +kernel
theorem dX9_ends_69 : decode cX9_ends 69 = .ok (.getfield 19, 3) := by decide +kernel
theorem dX9_ends_72 : decode cX9_ends 72 = .ok (.sipush 602, 3) := by decide +kernel
theorem dX9_ends_75 : decode cX9_ends 75 = .ok (.aload_n 0, 1) := by decide +kernel
theorem dX9_ends_76 : decode cX9_ends 76 = .ok (.getfield 34, 3) := by decide +kernel
theorem dX9_ends_79 : decode cX9_ends 79 = .ok (.imul, 1) := by decide +kernel
theorem dX9_ends_80 : decode cX9_ends 80 = .ok (.invokestatic 28, 3) := by decide +kernel
theorem dX9_ends_83 : decode cX9_ends 83 = .ok (.aload_n 0, 1) := by decide +kernel
theorem dX9_ends_84 : decode cX9_ends 84 = .ok (.dup, 1) := by decide +kernel
theorem dX9_ends_85 : decode cX9_ends 85 = .ok (.getfield 34, 3) := by decide +kernel
theorem dX9_ends_88 : decode cX9_ends 88 = .ok (.iconst 1, 1) := by decide +kernel
theorem dX9_ends_89 : decode cX9_ends 89 = .ok (.iadd, 1) := by decide +kernel
theorem dX9_ends_90 : decode cX9_ends 90 = .ok (.putfield 34, 3) := by decide +kernel
theorem dX9_ends_93 : decode cX9_ends 93 = .ok (.iload_n 1, 1) := by decide +kernel
theorem dX9_ends_94 : decode cX9_ends 94 = .ok (.ireturn, 1) := by decide +kernel
theorem dX9_isMember_0 : decode cX9_isMember 0 = .ok (.iload_n 1, 1) := by decide +kernel
theorem dX9_isMember_1 : decode cX9_isMember 1 = .ok (.iconst 0, 1) := by decide +kernel
theorem dX9_isMember_2 : decode cX9_isMember 2 = .ok (.aload_n 0, 1) := by decide +kernel
theorem dX9_isMember_3 : decode cX9_isMember 3 = .ok (.getfield 7, 3) := by decide +kernel
theorem dX9_isMember_6 : decode cX9_isMember 6 = .ok (.bipush 8, 2) := by decide +kernel
theorem dX9_isMember_8 : decode cX9_isMember 8 = .ok (.iaload, 1) := by decide +kernel
theorem dX9_isMember_9 : decode cX9_isMember 9 = .ok (.iconst 1, 1) := by decide +kernel
theorem dX9_isMember_10 : decode cX9_isMember 10 = .ok (.isub, 1) := by decide +kernel
theorem dX9_isMember_11 : decode cX9_isMember 11 = .ok (.invokestatic 38, 3) := by decide +kernel
theorem dX9_isMember_14 : decode cX9_isMember 14 = .ok (.ireturn, 1) := by decide +kernel
theorem dX9_isTool_0 : decode cX9_isTool 0 = .ok (.iload_n 1, 1) := by decide +kernel
theorem dX9_isTool_1 : decode cX9_isTool 1 = .ok (.iconst 0, 1) := by decide +kernel
theorem dX9_isTool_2 : decode cX9_isTool 2 = .ok (.aload_n 0, 1) := by decide +kernel
theorem dX9_isTool_3 : decode cX9_isTool 3 = .ok (.getfield 7, 3) := by decide +kernel
theorem dX9_isTool_6 : decode cX9_isTool 6 = .ok (.bipush 9, 2) := by decide +kernel
theorem dX9_isTool_8 : decode cX9_isTool 8 = .ok (.iaload, 1) := by decide +kernel
theorem dX9_isTool_9 : decode cX9_isTool 9 = .ok (.iconst 1, 1) := by decide +kernel
theorem dX9_isTool_10 : decode cX9_isTool 10 = .ok (.isub, 1) := by decide +kernel
theorem dX9_isTool_11 : decode cX9_isTool 11 = .ok (.invokestatic 38, 3) := by decide +kernel
theorem dX9_isTool_14 : decode cX9_isTool 14 = .ok (.ireturn, 1) := by decide +kernel
theorem dX9_of_0 : decode cX9_of 0 = .ok (.aload_n 0, 1) := by decide +kernel
theorem dX9_of_1 : decode cX9_of 1 = .ok (.getfield 7, 3) := by decide +kernel
theorem dX9_of_4 : decode cX9_of 4 = .ok (.bipush 22, 2) := by decide +kernel
theorem dX9_of_6 : decode cX9_of 6 = .ok (.bipush 12, 2) := by decide +kernel
theorem dX9_of_8 : decode cX9_of 8 = .ok (.iload_n 1, 1) := by decide +kernel
theorem dX9_of_9 : decode cX9_of 9 = .ok (.imul, 1) := by decide +kernel
theorem dX9_of_10 : decode cX9_of 10 = .ok (.iadd, 1) := by decide +kernel
theorem dX9_of_11 : decode cX9_of 11 = .ok (.iload_n 2, 1) := by decide +kernel
theorem dX9_of_12 : decode cX9_of 12 = .ok (.iadd, 1) := by decide +kernel
theorem dX9_of_13 : decode cX9_of 13 = .ok (.iaload, 1) := by decide +kernel
theorem dX9_of_14 : decode cX9_of 14 = .ok (.ireturn, 1) := by decide +kernel
theorem dX9_more_0 : decode cX9_more 0 = .ok (.aload_n 0, 1) := by decide +kernel
theorem dX9_more_1 : decode cX9_more 1 = .ok (.getfield 7, 3) := by decide +kernel
theorem dX9_more_4 : decode cX9_more 4 = .ok (.bipush 22, 2) := by decide +kernel
theorem dX9_more_6 : decode cX9_more 6 = .ok (.bipush 12, 2) := by decide +kernel
theorem dX9_more_8 : decode cX9_more 8 = .ok (.iload_n 1, 1) := by decide +kernel
theorem dX9_more_9 : decode cX9_more 9 = .ok (.imul, 1) := by decide +kernel
theorem dX9_more_10 : decode cX9_more 10 = .ok (.iadd, 1) := by decide +kernel
theorem dX9_more_11 : decode cX9_more 11 = .ok (.iload_n 2, 1) := by decide +kernel
theorem dX9_more_12 : decode cX9_more 12 = .ok (.iadd, 1) := by decide +kernel
theorem dX9_more_13 : decode cX9_more 13 = .ok (.dup2, 1) := by decide +kernel
theorem dX9_more_14 : decode cX9_more 14 = .ok (.iaload, 1) := by decide +kernel
theorem dX9_more_15 : decode cX9_more 15 = .ok (.iload_n 3, 1) := by decide +kernel
theorem dX9_more_16 : decode cX9_more 16 = .ok (.iadd, 1) := by decide +kernel
theorem dX9_more_17 : decode cX9_more 17 = .ok (.iastore, 1) := by decide +kernel
theorem dX9_more_18 : decode cX9_more 18 = .ok (.return_, 1) := by decide +kernel
theorem dX9_its_0 : decode cX9_its 0 = .ok (.aload_n 0, 1) := by decide +kernel
theorem dX9_its_1 : decode cX9_its 1 = .ok (.getfield 7, 3) := by decide +kernel
theorem dX9_its_4 : decode cX9_its 4 = .ok (.sipush 142, 3) := by decide +kernel
theorem dX9_its_7 : decode cX9_its 7 = .ok (.bipush 23, 2) := by decide +kernel
theorem dX9_its_9 : decode cX9_its 9 = .ok (.iload_n 1, 1) := by decide +kernel
theorem dX9_its_10 : decode cX9_its 10 = .ok (.imul, 1) := by decide +kernel
theorem dX9_its_11 : decode cX9_its 11 = .ok (.iadd, 1) := by decide +kernel
theorem dX9_its_12 : decode cX9_its 12 = .ok (.iload_n 2, 1) := by decide +kernel
theorem dX9_its_13 : decode cX9_its 13 = .ok (.iadd, 1) := by decide +kernel
theorem dX9_its_14 : decode cX9_its 14 = .ok (.iaload, 1) := by decide +kernel
theorem dX9_its_15 : decode cX9_its 15 = .ok (.ireturn, 1) := by decide +kernel
theorem dX9_lay_0 : decode cX9_lay 0 = .ok (.aload_n 0, 1) := by decide +kernel
theorem dX9_lay_1 : decode cX9_lay 1 = .ok (.getfield 7, 3) := by decide +kernel
theorem dX9_lay_4 : decode cX9_lay 4 = .ok (.sipush 142, 3) := by decide +kernel
theorem dX9_lay_7 : decode cX9_lay 7 = .ok (.bipush 23, 2) := by decide +kernel
theorem dX9_lay_9 : decode cX9_lay 9 = .ok (.iload_n 1, 1) := by decide +kernel
theorem dX9_lay_10 : decode cX9_lay 10 = .ok (.imul, 1) := by decide +kernel
theorem dX9_lay_11 : decode cX9_lay 11 = .ok (.iadd, 1) := by decide +kernel
theorem dX9_lay_12 : decode cX9_lay 12 = .ok (.iload_n 2, 1) := by decide +kernel
theorem dX9_lay_13 : decode cX9_lay 13 = .ok (.iadd, 1) := by decide +kernel
theorem dX9_lay_14 : decode cX9_lay 14 = .ok (.iload_n 3, 1) := by decide +kernel
theorem dX9_lay_15 : decode cX9_lay 15 = .ok (.iastore, 1) := by decide +kernel
theorem dX9_lay_16 : decode cX9_lay 16 = .ok (.return_, 1) := by decide +kernel
theorem dX9_gains_0 : decode cX9_gains 0 = .ok (.iload_n 2, 1) := by decide +kernel
theorem dX9_gains_1 : decode cX9_gains 1 = .ok (.istore 4, 2) := by decide +kernel
theorem dX9_gains_3 : decode cX9_gains 3 = .ok (.aload_n 0, 1) := by decide +kernel
theorem dX9_gains_4 : decode cX9_gains 4 = .ok (.iload_n 1, 1) := by decide +kernel
theorem dX9_gains_5 : decode cX9_gains 5 = .ok (.iload_n 3, 1) := by decide +kernel
theorem dX9_gains_6 : decode cX9_gains 6 = .ok (.iload_n 2, 1) := by decide +kernel
theorem dX9_gains_7 : decode cX9_gains 7 = .ok (.invokevirtual 42, 3) := by decide +kernel
theorem dX9_gains_10 : decode cX9_gains 10 = .ok (.iconst 0, 1) := by decide +kernel
theorem dX9_gains_11 : decode cX9_gains 11 = .ok (.istore 5, 2) := by decide +kernel
theorem dX9_gains_13 : decode cX9_gains 13 = .ok (.iload 5, 2) := by decide +kernel
theorem dX9_gains_15 : decode cX9_gains 15 = .ok (.iconst 3, 1) := by decide +kernel
theorem dX9_gains_16 : decode cX9_gains 16 = .ok (.if_icmp .ge 72, 3) := by decide +kernel
theorem dX9_gains_19 : decode cX9_gains 19 = .ok (.iload 4, 2) := by decide +kernel
theorem dX9_gains_21 : decode cX9_gains 21 = .ok (.aload_n 0, 1) := by decide +kernel
theorem dX9_gains_22 : decode cX9_gains 22 = .ok (.iload_n 1, 1) := by decide +kernel
theorem dX9_gains_23 : decode cX9_gains 23 = .ok (.bipush 8, 2) := by decide +kernel
theorem dX9_gains_25 : decode cX9_gains 25 = .ok (.iload 5, 2) := by decide +kernel
theorem dX9_gains_27 : decode cX9_gains 27 = .ok (.iadd, 1) := by decide +kernel
theorem dX9_gains_28 : decode cX9_gains 28 = .ok (.invokevirtual 46, 3) := by decide +kernel
theorem dX9_gains_31 : decode cX9_gains 31 = .ok (.if_icmp .ge 8, 3) := by decide +kernel
theorem dX9_gains_34 : decode cX9_gains 34 = .ok (.iload 4, 2) := by decide +kernel
theorem dX9_gains_36 : decode cX9_gains 36 = .ok (.goto 13, 3) := by decide +kernel
theorem dX9_gains_39 : decode cX9_gains 39 = .ok (.aload_n 0, 1) := by decide +kernel
theorem dX9_gains_40 : decode cX9_gains 40 = .ok (.iload_n 1, 1) := by decide +kernel
theorem dX9_gains_41 : decode cX9_gains 41 = .ok (.bipush 8, 2) := by decide +kernel
theorem dX9_gains_43 : decode cX9_gains 43 = .ok (.iload 5, 2) := by decide +kernel
theorem dX9_gains_45 : decode cX9_gains 45 = .ok (.iadd, 1) := by decide +kernel
theorem dX9_gains_46 : decode cX9_gains 46 = .ok (.invokevirtual 46, 3) := by decide +kernel
theorem dX9_gains_49 : decode cX9_gains 49 = .ok (.istore 6, 2) := by decide +kernel
theorem dX9_gains_51 : decode cX9_gains 51 = .ok (.aload_n 0, 1) := by decide +kernel
theorem dX9_gains_52 : decode cX9_gains 52 = .ok (.iload_n 1, 1) := by decide +kernel
theorem dX9_gains_53 : decode cX9_gains 53 = .ok (.bipush 8, 2) := by decide +kernel
theorem dX9_gains_55 : decode cX9_gains 55 = .ok (.iload 5, 2) := by decide +kernel
theorem dX9_gains_57 : decode cX9_gains 57 = .ok (.iadd, 1) := by decide +kernel
theorem dX9_gains_58 : decode cX9_gains 58 = .ok (.iload 6, 2) := by decide +kernel
theorem dX9_gains_60 : decode cX9_gains 60 = .ok (.ineg, 1) := by decide +kernel
theorem dX9_gains_61 : decode cX9_gains 61 = .ok (.invokevirtual 42, 3) := by decide +kernel
theorem dX9_gains_64 : decode cX9_gains 64 = .ok (.aload_n 0, 1) := by decide +kernel
theorem dX9_gains_65 : decode cX9_gains 65 = .ok (.iload_n 1, 1) := by decide +kernel
theorem dX9_gains_66 : decode cX9_gains 66 = .ok (.iconst 5, 1) := by decide +kernel
theorem dX9_gains_67 : decode cX9_gains 67 = .ok (.iload 5, 2) := by decide +kernel
theorem dX9_gains_69 : decode cX9_gains 69 = .ok (.iadd, 1) := by decide +kernel
theorem dX9_gains_70 : decode cX9_gains 70 = .ok (.iload 6, 2) := by decide +kernel
theorem dX9_gains_72 : decode cX9_gains 72 = .ok (.invokevirtual 42, 3) := by decide +kernel
theorem dX9_gains_75 : decode cX9_gains 75 = .ok (.iload 4, 2) := by decide +kernel
theorem dX9_gains_77 : decode cX9_gains 77 = .ok (.iload 6, 2) := by decide +kernel
theorem dX9_gains_79 : decode cX9_gains 79 = .ok (.isub, 1) := by decide +kernel
theorem dX9_gains_80 : decode cX9_gains 80 = .ok (.istore 4, 2) := by decide +kernel
theorem dX9_gains_82 : decode cX9_gains 82 = .ok (.iinc 5 1, 3) := by decide +kernel
theorem dX9_gains_85 : decode cX9_gains 85 = .ok (.goto (-72), 3) := by decide +kernel
theorem dX9_gains_88 : decode cX9_gains 88 = .ok (.aload_n 0, 1) := by decide +kernel
theorem dX9_gains_89 : decode cX9_gains 89 = .ok (.iload_n 1, 1) := by decide +kernel
theorem dX9_gains_90 : decode cX9_gains 90 = .ok (.iconst 3, 1) := by decide +kernel
theorem dX9_gains_91 : decode cX9_gains 91 = .ok (.iload 4, 2) := by decide +kernel
theorem dX9_gains_93 : decode cX9_gains 93 = .ok (.invokevirtual 42, 3) := by decide +kernel
theorem dX9_gains_96 : decode cX9_gains 96 = .ok (.return_, 1) := by decide +kernel
theorem dX9_charges_0 : decode cX9_charges 0 = .ok (.iload_n 2, 1) := by decide +kernel
theorem dX9_charges_1 : decode cX9_charges 1 = .ok (.aload_n 0, 1) := by decide +kernel
theorem dX9_charges_2 : decode cX9_charges 2 = .ok (.iload_n 1, 1) := by decide +kernel
theorem dX9_charges_3 : decode cX9_charges 3 = .ok (.iconst 3, 1) := by decide +kernel
theorem dX9_charges_4 : decode cX9_charges 4 = .ok (.invokevirtual 46, 3) := by decide +kernel
theorem dX9_charges_7 : decode cX9_charges 7 = .ok (.if_icmp .ge 7, 3) := by decide +kernel
theorem dX9_charges_10 : decode cX9_charges 10 = .ok (.iload_n 2, 1) := by decide +kernel
theorem dX9_charges_11 : decode cX9_charges 11 = .ok (.goto 9, 3) := by decide +kernel
theorem dX9_charges_14 : decode cX9_charges 14 = .ok (.aload_n 0, 1) := by decide +kernel
theorem dX9_charges_15 : decode cX9_charges 15 = .ok (.iload_n 1, 1) := by decide +kernel
theorem dX9_charges_16 : decode cX9_charges 16 = .ok (.iconst 3, 1) := by decide +kernel
theorem dX9_charges_17 : decode cX9_charges 17 = .ok (.invokevirtual 46, 3) := by decide +kernel
theorem dX9_charges_20 : decode cX9_charges 20 = .ok (.istore 4, 2) := by decide +kernel
theorem dX9_charges_22 : decode cX9_charges 22 = .ok (.aload_n 0, 1) := by decide +kernel
theorem dX9_charges_23 : decode cX9_charges 23 = .ok (.iload_n 1, 1) := by decide +kernel
theorem dX9_charges_24 : decode cX9_charges 24 = .ok (.iconst 3, 1) := by decide +kernel
theorem dX9_charges_25 : decode cX9_charges 25 = .ok (.iload 4, 2) := by decide +kernel
theorem dX9_charges_27 : decode cX9_charges 27 = .ok (.ineg, 1) := by decide +kernel
theorem dX9_charges_28 : decode cX9_charges 28 = .ok (.invokevirtual 42, 3) := by decide +kernel
theorem dX9_charges_31 : decode cX9_charges 31 = .ok (.aload_n 0, 1) := by decide +kernel
theorem dX9_charges_32 : decode cX9_charges 32 = .ok (.iload_n 1, 1) := by decide +kernel
theorem dX9_charges_33 : decode cX9_charges 33 = .ok (.iconst 5, 1) := by decide +kernel
theorem dX9_charges_34 : decode cX9_charges 34 = .ok (.iload_n 3, 1) := by decide +kernel
theorem dX9_charges_35 : decode cX9_charges 35 = .ok (.iadd, 1) := by decide +kernel
theorem dX9_charges_36 : decode cX9_charges 36 = .ok (.iload 4, 2) := by decide +kernel
theorem dX9_charges_38 : decode cX9_charges 38 = .ok (.invokevirtual 42, 3) := by decide +kernel
theorem dX9_charges_41 : decode cX9_charges 41 = .ok (.aload_n 0, 1) := by decide +kernel
theorem dX9_charges_42 : decode cX9_charges 42 = .ok (.iload_n 1, 1) := by decide +kernel
theorem dX9_charges_43 : decode cX9_charges 43 = .ok (.bipush 8, 2) := by decide +kernel
theorem dX9_charges_45 : decode cX9_charges 45 = .ok (.iload_n 3, 1) := by decide +kernel
theorem dX9_charges_46 : decode cX9_charges 46 = .ok (.iadd, 1) := by decide +kernel
theorem dX9_charges_47 : decode cX9_charges 47 = .ok (.iload_n 2, 1) := by decide +kernel
theorem dX9_charges_48 : decode cX9_charges 48 = .ok (.iload 4, 2) := by decide +kernel
theorem dX9_charges_50 : decode cX9_charges 50 = .ok (.isub, 1) := by decide +kernel
theorem dX9_charges_51 : decode cX9_charges 51 = .ok (.invokevirtual 42, 3) := by decide +kernel
theorem dX9_charges_54 : decode cX9_charges 54 = .ok (.return_, 1) := by decide +kernel
theorem dX9_shares_0 : decode cX9_shares 0 = .ok (.iload_n 1, 1) := by decide +kernel
theorem dX9_shares_1 : decode cX9_shares 1 = .ok (.aload_n 0, 1) := by decide +kernel
theorem dX9_shares_2 : decode cX9_shares 2 = .ok (.getfield 7, 3) := by decide +kernel
theorem dX9_shares_5 : decode cX9_shares 5 = .ok (.bipush 8, 2) := by decide +kernel
theorem dX9_shares_7 : decode cX9_shares 7 = .ok (.iaload, 1) := by decide +kernel
theorem dX9_shares_8 : decode cX9_shares 8 = .ok (.if_icmp .ge 22, 3) := by decide +kernel
theorem dX9_shares_11 : decode cX9_shares 11 = .ok (.iload_n 1, 1) := by decide +kernel
theorem dX9_shares_12 : decode cX9_shares 12 = .ok (.iload_n 2, 1) := by decide +kernel
theorem dX9_shares_13 : decode cX9_shares 13 = .ok (.if_icmp .eq 17, 3) := by decide +kernel
theorem dX9_shares_16 : decode cX9_shares 16 = .ok (.aload_n 0, 1) := by decide +kernel
theorem dX9_shares_17 : decode cX9_shares 17 = .ok (.iload_n 1, 1) := by decide +kernel
theorem dX9_shares_18 : decode cX9_shares 18 = .ok (.iconst 0, 1) := by decide +kernel
theorem dX9_shares_19 : decode cX9_shares 19 = .ok (.invokevirtual 46, 3) := by decide +kernel
theorem dX9_shares_22 : decode cX9_shares 22 = .ok (.iconst 2, 1) := by decide +kernel
theorem dX9_shares_23 : decode cX9_shares 23 = .ok (.if_icmp .eq 7, 3) := by decide +kernel
theorem dX9_shares_26 : decode cX9_shares 26 = .ok (.iconst 1, 1) := by decide +kernel
theorem dX9_shares_27 : decode cX9_shares 27 = .ok (.goto 4, 3) := by decide +kernel
theorem dX9_shares_30 : decode cX9_shares 30 = .ok (.iconst 0, 1) := by decide +kernel
theorem dX9_shares_31 : decode cX9_shares 31 = .ok (.ireturn, 1) := by decide +kernel
theorem dX9_sharing_0 : decode cX9_sharing 0 = .ok (.iconst 0, 1) := by decide +kernel
theorem dX9_sharing_1 : decode cX9_sharing 1 = .ok (.istore_n 2, 1) := by decide +kernel
theorem dX9_sharing_2 : decode cX9_sharing 2 = .ok (.iconst 0, 1) := by decide +kernel
theorem dX9_sharing_3 : decode cX9_sharing 3 = .ok (.istore_n 3, 1) := by decide +kernel
theorem dX9_sharing_4 : decode cX9_sharing 4 = .ok (.iload_n 3, 1) := by decide +kernel
theorem dX9_sharing_5 : decode cX9_sharing 5 = .ok (.aload_n 0, 1) := by decide +kernel
theorem dX9_sharing_6 : decode cX9_sharing 6 = .ok (.getfield 7, 3) := by decide +kernel
theorem dX9_sharing_9 : decode cX9_sharing 9 = .ok (.bipush 8, 2) := by decide +kernel
theorem dX9_sharing_11 : decode cX9_sharing 11 = .ok (.iaload, 1) := by decide +kernel
theorem dX9_sharing_12 : decode cX9_sharing 12 = .ok (.if_icmp .ge 26, 3) := by decide +kernel
theorem dX9_sharing_15 : decode cX9_sharing 15 = .ok (.iload_n 2, 1) := by decide +kernel
theorem dX9_sharing_16 : decode cX9_sharing 16 = .ok (.aload_n 0, 1) := by decide +kernel
theorem dX9_sharing_17 : decode cX9_sharing 17 = .ok (.iload_n 3, 1) := by decide +kernel
theorem dX9_sharing_18 : decode cX9_sharing 18 = .ok (.iload_n 1, 1) := by decide +kernel
theorem dX9_sharing_19 : decode cX9_sharing 19 = .ok (.invokevirtual 50, 3) := by decide +kernel
theorem dX9_sharing_22 : decode cX9_sharing 22 = .ok (.ifCond .eq 7, 3) := by decide +kernel
theorem dX9_sharing_25 : decode cX9_sharing 25 = .ok (.iconst 1, 1) := by decide +kernel
theorem dX9_sharing_26 : decode cX9_sharing 26 = .ok (.goto 4, 3) := by decide +kernel
theorem dX9_sharing_29 : decode cX9_sharing 29 = .ok (.iconst 0, 1) := by decide +kernel
theorem dX9_sharing_30 : decode cX9_sharing 30 = .ok (.iadd, 1) := by decide +kernel
theorem dX9_sharing_31 : decode cX9_sharing 31 = .ok (.istore_n 2, 1) := by decide +kernel
theorem dX9_sharing_32 : decode cX9_sharing 32 = .ok (.iinc 3 1, 3) := by decide +kernel
theorem dX9_sharing_35 : decode cX9_sharing 35 = .ok (.goto (-31), 3) := by decide +kernel
theorem dX9_sharing_38 : decode cX9_sharing 38 = .ok (.iload_n 2, 1) := by decide +kernel
theorem dX9_sharing_39 : decode cX9_sharing 39 = .ok (.ireturn, 1) := by decide +kernel
theorem dX9_shared_0 : decode cX9_shared 0 = .ok (.aload_n 0, 1) := by decide +kernel
theorem dX9_shared_1 : decode cX9_shared 1 = .ok (.iload_n 2, 1) := by decide +kernel
theorem dX9_shared_2 : decode cX9_shared 2 = .ok (.invokevirtual 54, 3) := by decide +kernel
theorem dX9_shared_5 : decode cX9_shared 5 = .ok (.istore 4, 2) := by decide +kernel
theorem dX9_shared_7 : decode cX9_shared 7 = .ok (.iload_n 1, 1) := by decide +kernel
theorem dX9_shared_8 : decode cX9_shared 8 = .ok (.iload 4, 2) := by decide +kernel
theorem dX9_shared_10 : decode cX9_shared 10 = .ok (.irem, 1) := by decide +kernel
theorem dX9_shared_11 : decode cX9_shared 11 = .ok (.istore 5, 2) := by decide +kernel
theorem dX9_shared_13 : decode cX9_shared 13 = .ok (.aload_n 0, 1) := by decide +kernel
theorem dX9_shared_14 : decode cX9_shared 14 = .ok (.getfield 7, 3) := by decide +kernel
theorem dX9_shared_17 : decode cX9_shared 17 = .ok (.bipush 10, 2) := by decide +kernel
theorem dX9_shared_19 : decode cX9_shared 19 = .ok (.iaload, 1) := by decide +kernel
theorem dX9_shared_20 : decode cX9_shared 20 = .ok (.istore 6, 2) := by decide +kernel
theorem dX9_shared_22 : decode cX9_shared 22 = .ok (.iconst 0, 1) := by decide +kernel
theorem dX9_shared_23 : decode cX9_shared 23 = .ok (.istore 7, 2) := by decide +kernel
theorem dX9_shared_25 : decode cX9_shared 25 = .ok (.iload 7, 2) := by decide +kernel
theorem dX9_shared_27 : decode cX9_shared 27 = .ok (.bipush 10, 2) := by decide +kernel
theorem dX9_shared_29 : decode cX9_shared 29 = .ok (.if_icmp .ge 103, 3) := by decide +kernel
theorem dX9_shared_32 : decode cX9_shared 32 = .ok (.iload 6, 2) := by decide +kernel
theorem dX9_shared_34 : decode cX9_shared 34 = .ok (.iload 7, 2) := by decide +kernel
theorem dX9_shared_36 : decode cX9_shared 36 = .ok (.iadd, 1) := by decide +kernel
theorem dX9_shared_37 : decode cX9_shared 37 = .ok (.bipush 10, 2) := by decide +kernel
theorem dX9_shared_39 : decode cX9_shared 39 = .ok (.irem, 1) := by decide +kernel
theorem dX9_shared_40 : decode cX9_shared 40 = .ok (.istore 8, 2) := by decide +kernel
theorem dX9_shared_42 : decode cX9_shared 42 = .ok (.aload_n 0, 1) := by decide +kernel
theorem dX9_shared_43 : decode cX9_shared 43 = .ok (.iload 8, 2) := by decide +kernel
theorem dX9_shared_45 : decode cX9_shared 45 = .ok (.iload_n 2, 1) := by decide +kernel
theorem dX9_shared_46 : decode cX9_shared 46 = .ok (.invokevirtual 50, 3) := by decide +kernel
theorem dX9_shared_49 : decode cX9_shared 49 = .ok (.ifCond .eq 77, 3) := by decide +kernel
theorem dX9_shared_52 : decode cX9_shared 52 = .ok (.iload_n 1, 1) := by decide +kernel
theorem dX9_shared_53 : decode cX9_shared 53 = .ok (.iload 4, 2) := by decide +kernel
theorem dX9_shared_55 : decode cX9_shared 55 = .ok (.idiv, 1) := by decide +kernel
theorem dX9_shared_56 : decode cX9_shared 56 = .ok (.iload 5, 2) := by decide +kernel
theorem dX9_shared_58 : decode cX9_shared 58 = .ok (.ifCond .le 7, 3) := by decide +kernel
theorem dX9_shared_61 : decode cX9_shared 61 = .ok (.iconst 1, 1) := by decide +kernel
theorem dX9_shared_62 : decode cX9_shared 62 = .ok (.goto 4, 3) := by decide +kernel
theorem dX9_shared_65 : decode cX9_shared 65 = .ok (.iconst 0, 1) := by decide +kernel
theorem dX9_shared_66 : decode cX9_shared 66 = .ok (.iadd, 1) := by decide +kernel
theorem dX9_shared_67 : decode cX9_shared 67 = .ok (.istore 9, 2) := by decide +kernel
theorem dX9_shared_69 : decode cX9_shared 69 = .ok (.aload_n 0, 1) := by decide +kernel
theorem dX9_shared_70 : decode cX9_shared 70 = .ok (.getfield 7, 3) := by decide +kernel
theorem dX9_shared_73 : decode cX9_shared 73 = .ok (.bipush 10, 2) := by decide +kernel
theorem dX9_shared_75 : decode cX9_shared 75 = .ok (.iload 5, 2) := by decide +kernel
theorem dX9_shared_77 : decode cX9_shared 77 = .ok (.ifCond .le 13, 3) := by decide +kernel
theorem dX9_shared_80 : decode cX9_shared 80 = .ok (.iload 8, 2) := by decide +kernel
theorem dX9_shared_82 : decode cX9_shared 82 = .ok (.iconst 1, 1) := by decide +kernel
theorem dX9_shared_83 : decode cX9_shared 83 = .ok (.iadd, 1) := by decide +kernel
theorem dX9_shared_84 : decode cX9_shared 84 = .ok (.bipush 10, 2) := by decide +kernel
theorem dX9_shared_86 : decode cX9_shared 86 = .ok (.irem, 1) := by decide +kernel
theorem dX9_shared_87 : decode cX9_shared 87 = .ok (.goto 10, 3) := by decide +kernel
theorem dX9_shared_90 : decode cX9_shared 90 = .ok (.aload_n 0, 1) := by decide +kernel
theorem dX9_shared_91 : decode cX9_shared 91 = .ok (.getfield 7, 3) := by decide +kernel
theorem dX9_shared_94 : decode cX9_shared 94 = .ok (.bipush 10, 2) := by decide +kernel
theorem dX9_shared_96 : decode cX9_shared 96 = .ok (.iaload, 1) := by decide +kernel
theorem dX9_shared_97 : decode cX9_shared 97 = .ok (.iastore, 1) := by decide +kernel
theorem dX9_shared_98 : decode cX9_shared 98 = .ok (.iinc 5 (-1), 3) := by decide +kernel
theorem dX9_shared_101 : decode cX9_shared 101 = .ok (.iload_n 3, 1) := by decide +kernel
theorem dX9_shared_102 : decode cX9_shared 102 = .ok (.ifCond .ge 15, 3) := by decide +kernel
theorem dX9_shared_105 : decode cX9_shared 105 = .ok (.aload_n 0, 1) := by decide +kernel
theorem dX9_shared_106 : decode cX9_shared 106 = .ok (.iload 8, 2) := by decide +kernel
theorem dX9_shared_108 : decode cX9_shared 108 = .ok (.iload 9, 2) := by decide +kernel
theorem dX9_shared_110 : decode cX9_shared 110 = .ok (.iconst 2, 1) := by decide +kernel
theorem dX9_shared_111 : decode cX9_shared 111 = .ok (.invokevirtual 58, 3) := by decide +kernel
theorem dX9_shared_114 : decode cX9_shared 114 = .ok (.goto 12, 3) := by decide +kernel
theorem dX9_shared_117 : decode cX9_shared 117 = .ok (.aload_n 0, 1) := by decide +kernel
theorem dX9_shared_118 : decode cX9_shared 118 = .ok (.iload 8, 2) := by decide +kernel
theorem dX9_shared_120 : decode cX9_shared 120 = .ok (.iload 9, 2) := by decide +kernel
theorem dX9_shared_122 : decode cX9_shared 122 = .ok (.iload_n 3, 1) := by decide +kernel
theorem dX9_shared_123 : decode cX9_shared 123 = .ok (.invokevirtual 61, 3) := by decide +kernel
theorem dX9_shared_126 : decode cX9_shared 126 = .ok (.iinc 7 1, 3) := by decide +kernel
theorem dX9_shared_129 : decode cX9_shared 129 = .ok (.goto (-104), 3) := by decide +kernel
theorem dX9_shared_132 : decode cX9_shared 132 = .ok (.return_, 1) := by decide +kernel
theorem dX9_openOf_0 : decode cX9_openOf 0 = .ok (.aload_n 0, 1) := by decide +kernel
theorem dX9_openOf_1 : decode cX9_openOf 1 = .ok (.iload_n 1, 1) := by decide +kernel
theorem dX9_openOf_2 : decode cX9_openOf 2 = .ok (.bipush 8, 2) := by decide +kernel
theorem dX9_openOf_4 : decode cX9_openOf 4 = .ok (.invokevirtual 46, 3) := by decide +kernel
theorem dX9_openOf_7 : decode cX9_openOf 7 = .ok (.aload_n 0, 1) := by decide +kernel
theorem dX9_openOf_8 : decode cX9_openOf 8 = .ok (.iload_n 1, 1) := by decide +kernel
theorem dX9_openOf_9 : decode cX9_openOf 9 = .ok (.bipush 9, 2) := by decide +kernel
theorem dX9_openOf_11 : decode cX9_openOf 11 = .ok (.invokevirtual 46, 3) := by decide +kernel
theorem dX9_openOf_14 : decode cX9_openOf 14 = .ok (.iadd, 1) := by decide +kernel
theorem dX9_openOf_15 : decode cX9_openOf 15 = .ok (.aload_n 0, 1) := by decide +kernel
theorem dX9_openOf_16 : decode cX9_openOf 16 = .ok (.iload_n 1, 1) := by decide +kernel
theorem dX9_openOf_17 : decode cX9_openOf 17 = .ok (.bipush 10, 2) := by decide +kernel
theorem dX9_openOf_19 : decode cX9_openOf 19 = .ok (.invokevirtual 46, 3) := by decide +kernel
theorem dX9_openOf_22 : decode cX9_openOf 22 = .ok (.iadd, 1) := by decide +kernel
theorem dX9_openOf_23 : decode cX9_openOf 23 = .ok (.ireturn, 1) := by decide +kernel
theorem dX9_highest_0 : decode cX9_highest 0 = .ok (.iload_n 0, 1) := by decide +kernel
theorem dX9_highest_1 : decode cX9_highest 1 = .ok (.tableswitch 60 0 6 #[43, 47, 50, 53, 56, 60, 47], 43) := by decide +kernel
theorem dX9_highest_44 : decode cX9_highest 44 = .ok (.sipush 400, 3) := by decide +kernel
theorem dX9_highest_47 : decode cX9_highest 47 = .ok (.ireturn, 1) := by decide +kernel
theorem dX9_highest_48 : decode cX9_highest 48 = .ok (.bipush 60, 2) := by decide +kernel
theorem dX9_highest_50 : decode cX9_highest 50 = .ok (.ireturn, 1) := by decide +kernel
theorem dX9_highest_51 : decode cX9_highest 51 = .ok (.bipush 20, 2) := by decide +kernel
theorem dX9_highest_53 : decode cX9_highest 53 = .ok (.ireturn, 1) := by decide +kernel
theorem dX9_highest_54 : decode cX9_highest 54 = .ok (.bipush 40, 2) := by decide +kernel
theorem dX9_highest_56 : decode cX9_highest 56 = .ok (.ireturn, 1) := by decide +kernel
theorem dX9_highest_57 : decode cX9_highest 57 = .ok (.sipush 1000, 3) := by decide +kernel
theorem dX9_highest_60 : decode cX9_highest 60 = .ok (.ireturn, 1) := by decide +kernel
theorem dX9_highest_61 : decode cX9_highest 61 = .ok (.bipush 100, 2) := by decide +kernel
theorem dX9_highest_63 : decode cX9_highest 63 = .ok (.ireturn, 1) := by decide +kernel
theorem dX9_set_0 : decode cX9_set 0 = .ok (.iload_n 1, 1) := by decide +kernel
theorem dX9_set_1 : decode cX9_set 1 = .ok (.iconst 1, 1) := by decide +kernel
theorem dX9_set_2 : decode cX9_set 2 = .ok (.if_icmp .eq 9, 3) := by decide +kernel
theorem dX9_set_5 : decode cX9_set 5 = .ok (.iload_n 1, 1) := by decide +kernel
theorem dX9_set_6 : decode cX9_set 6 = .ok (.bipush 6, 2) := by decide +kernel
theorem dX9_set_8 : decode cX9_set 8 = .ok (.if_icmp .ne 7, 3) := by decide +kernel
theorem dX9_set_11 : decode cX9_set 11 = .ok (.iconst 1, 1) := by decide +kernel
theorem dX9_set_12 : decode cX9_set 12 = .ok (.goto 4, 3) := by decide +kernel
theorem dX9_set_15 : decode cX9_set 15 = .ok (.iconst 0, 1) := by decide +kernel
theorem dX9_set_16 : decode cX9_set 16 = .ok (.istore_n 3, 1) := by decide +kernel
theorem dX9_set_17 : decode cX9_set 17 = .ok (.iload_n 1, 1) := by decide +kernel
theorem dX9_set_18 : decode cX9_set 18 = .ok (.iconst 0, 1) := by decide +kernel
theorem dX9_set_19 : decode cX9_set 19 = .ok (.bipush 6, 2) := by decide +kernel
theorem dX9_set_21 : decode cX9_set 21 = .ok (.invokestatic 38, 3) := by decide +kernel
theorem dX9_set_24 : decode cX9_set 24 = .ok (.ifCond .eq 23, 3) := by decide +kernel
theorem dX9_set_27 : decode cX9_set 27 = .ok (.iload_n 2, 1) := by decide +kernel
theorem dX9_set_28 : decode cX9_set 28 = .ok (.iload_n 3, 1) := by decide +kernel
theorem dX9_set_29 : decode cX9_set 29 = .ok (.ifCond .eq 7, 3) := by decide +kernel
theorem dX9_set_32 : decode cX9_set 32 = .ok (.iconst 1, 1) := by decide +kernel
theorem dX9_set_33 : decode cX9_set 33 = .ok (.goto 4, 3) := by decide +kernel
theorem dX9_set_36 : decode cX9_set 36 = .ok (.iconst 0, 1) := by decide +kernel
theorem dX9_set_37 : decode cX9_set 37 = .ok (.iload_n 1, 1) := by decide +kernel
theorem dX9_set_38 : decode cX9_set 38 = .ok (.invokestatic 64, 3) := by decide +kernel
theorem dX9_set_41 : decode cX9_set 41 = .ok (.invokestatic 38, 3) := by decide +kernel
theorem dX9_set_44 : decode cX9_set 44 = .ok (.ifCond .ne 6, 3) := by decide +kernel
theorem dX9_set_47 : decode cX9_set 47 = .ok (.ldc 32, 2) := by decide +kernel
theorem dX9_set_49 : decode cX9_set 49 = .ok (.ireturn, 1) := by decide +kernel
theorem dX9_set_50 : decode cX9_set 50 = .ok (.aload_n 0, 1) := by decide +kernel
theorem dX9_set_51 : decode cX9_set 51 = .ok (.invokevirtual 67, 3) := by decide +kernel
theorem dX9_set_54 : decode cX9_set 54 = .ok (.aload_n 0, 1) := by decide +kernel
theorem dX9_set_55 : decode cX9_set 55 = .ok (.getfield 7, 3) := by decide +kernel
theorem dX9_set_58 : decode cX9_set 58 = .ok (.iload_n 1, 1) := by decide +kernel
theorem dX9_set_59 : decode cX9_set 59 = .ok (.iaload, 1) := by decide +kernel
theorem dX9_set_60 : decode cX9_set 60 = .ok (.istore 4, 2) := by decide +kernel
theorem dX9_set_62 : decode cX9_set 62 = .ok (.aload_n 0, 1) := by decide +kernel
theorem dX9_set_63 : decode cX9_set 63 = .ok (.getfield 7, 3) := by decide +kernel
theorem dX9_set_66 : decode cX9_set 66 = .ok (.iload_n 1, 1) := by decide +kernel
theorem dX9_set_67 : decode cX9_set 67 = .ok (.iload_n 2, 1) := by decide +kernel
theorem dX9_set_68 : decode cX9_set 68 = .ok (.iastore, 1) := by decide +kernel
theorem dX9_set_69 : decode cX9_set 69 = .ok (.aload_n 0, 1) := by decide +kernel
theorem dX9_set_70 : decode cX9_set 70 = .ok (.iload 4, 2) := by decide +kernel
theorem dX9_set_72 : decode cX9_set 72 = .ok (.invokevirtual 70, 3) := by decide +kernel
theorem dX9_set_75 : decode cX9_set 75 = .ok (.ireturn, 1) := by decide +kernel
theorem dX9_member_0 : decode cX9_member 0 = .ok (.aload_n 0, 1) := by decide +kernel
theorem dX9_member_1 : decode cX9_member 1 = .ok (.getfield 7, 3) := by decide +kernel
theorem dX9_member_4 : decode cX9_member 4 = .ok (.bipush 8, 2) := by decide +kernel
theorem dX9_member_6 : decode cX9_member 6 = .ok (.iaload, 1) := by decide +kernel
theorem dX9_member_7 : decode cX9_member 7 = .ok (.bipush 10, 2) := by decide +kernel
theorem dX9_member_9 : decode cX9_member 9 = .ok (.if_icmp .ne 6, 3) := by decide +kernel
theorem dX9_member_12 : decode cX9_member 12 = .ok (.ldc 73, 2) := by decide +kernel
theorem dX9_member_14 : decode cX9_member 14 = .ok (.ireturn, 1) := by decide +kernel
theorem dX9_member_15 : decode cX9_member 15 = .ok (.aload_n 0, 1) := by decide +kernel
theorem dX9_member_16 : decode cX9_member 16 = .ok (.invokevirtual 67, 3) := by decide +kernel
theorem dX9_member_19 : decode cX9_member 19 = .ok (.aload_n 0, 1) := by decide +kernel
theorem dX9_member_20 : decode cX9_member 20 = .ok (.getfield 7, 3) := by decide +kernel
theorem dX9_member_23 : decode cX9_member 23 = .ok (.bipush 8, 2) := by decide +kernel
theorem dX9_member_25 : decode cX9_member 25 = .ok (.iaload, 1) := by decide +kernel
theorem dX9_member_26 : decode cX9_member 26 = .ok (.istore_n 1, 1) := by decide +kernel
theorem dX9_member_27 : decode cX9_member 27 = .ok (.aload_n 0, 1) := by decide +kernel
theorem dX9_member_28 : decode cX9_member 28 = .ok (.getfield 7, 3) := by decide +kernel
theorem dX9_member_31 : decode cX9_member 31 = .ok (.bipush 12, 2) := by decide +kernel
theorem dX9_member_33 : decode cX9_member 33 = .ok (.aload_n 0, 1) := by decide +kernel
theorem dX9_member_34 : decode cX9_member 34 = .ok (.getfield 7, 3) := by decide +kernel
theorem dX9_member_37 : decode cX9_member 37 = .ok (.bipush 11, 2) := by decide +kernel
theorem dX9_member_39 : decode cX9_member 39 = .ok (.iaload, 1) := by decide +kernel
theorem dX9_member_40 : decode cX9_member 40 = .ok (.iadd, 1) := by decide +kernel
theorem dX9_member_41 : decode cX9_member 41 = .ok (.iload_n 1, 1) := by decide +kernel
theorem dX9_member_42 : decode cX9_member 42 = .ok (.iastore, 1) := by decide +kernel
theorem dX9_member_43 : decode cX9_member 43 = .ok (.aload_n 0, 1) := by decide +kernel
theorem dX9_member_44 : decode cX9_member 44 = .ok (.getfield 7, 3) := by decide +kernel
theorem dX9_member_47 : decode cX9_member 47 = .ok (.bipush 11, 2) := by decide +kernel
theorem dX9_member_49 : decode cX9_member 49 = .ok (.dup2, 1) := by decide +kernel
theorem dX9_member_50 : decode cX9_member 50 = .ok (.iaload, 1) := by decide +kernel
theorem dX9_member_51 : decode cX9_member 51 = .ok (.iconst 1, 1) := by decide +kernel
theorem dX9_member_52 : decode cX9_member 52 = .ok (.iadd, 1) := by decide +kernel
theorem dX9_member_53 : decode cX9_member 53 = .ok (.iastore, 1) := by decide +kernel
theorem dX9_member_54 : decode cX9_member 54 = .ok (.aload_n 0, 1) := by decide +kernel
theorem dX9_member_55 : decode cX9_member 55 = .ok (.getfield 7, 3) := by decide +kernel
theorem dX9_member_58 : decode cX9_member 58 = .ok (.bipush 8, 2) := by decide +kernel
theorem dX9_member_60 : decode cX9_member 60 = .ok (.dup2, 1) := by decide +kernel
theorem dX9_member_61 : decode cX9_member 61 = .ok (.iaload, 1) := by decide +kernel
theorem dX9_member_62 : decode cX9_member 62 = .ok (.iconst 1, 1) := by decide +kernel
theorem dX9_member_63 : decode cX9_member 63 = .ok (.iadd, 1) := by decide +kernel
theorem dX9_member_64 : decode cX9_member 64 = .ok (.iastore, 1) := by decide +kernel
theorem dX9_member_65 : decode cX9_member 65 = .ok (.aload_n 0, 1) := by decide +kernel
theorem dX9_member_66 : decode cX9_member 66 = .ok (.iload_n 1, 1) := by decide +kernel
theorem dX9_member_67 : decode cX9_member 67 = .ok (.invokevirtual 70, 3) := by decide +kernel
theorem dX9_member_70 : decode cX9_member 70 = .ok (.ireturn, 1) := by decide +kernel
theorem dX9_away_0 : decode cX9_away 0 = .ok (.aload_n 0, 1) := by decide +kernel
theorem dX9_away_1 : decode cX9_away 1 = .ok (.iload_n 1, 1) := by decide +kernel
theorem dX9_away_2 : decode cX9_away 2 = .ok (.invokevirtual 74, 3) := by decide +kernel
theorem dX9_away_5 : decode cX9_away 5 = .ok (.ifCond .eq 12, 3) := by decide +kernel
theorem dX9_away_8 : decode cX9_away 8 = .ok (.iload_n 2, 1) := by decide +kernel
theorem dX9_away_9 : decode cX9_away 9 = .ok (.iconst 0, 1) := by decide +kernel
theorem dX9_away_10 : decode cX9_away 10 = .ok (.iconst 1, 1) := by decide +kernel
theorem dX9_away_11 : decode cX9_away 11 = .ok (.invokestatic 38, 3) := by decide +kernel
theorem dX9_away_14 : decode cX9_away 14 = .ok (.ifCond .ne 6, 3) := by decide +kernel
theorem dX9_away_17 : decode cX9_away 17 = .ok (.ldc 32, 2) := by decide +kernel
theorem dX9_away_19 : decode cX9_away 19 = .ok (.ireturn, 1) := by decide +kernel
theorem dX9_away_20 : decode cX9_away 20 = .ok (.aload_n 0, 1) := by decide +kernel
theorem dX9_away_21 : decode cX9_away 21 = .ok (.iload_n 1, 1) := by decide +kernel
theorem dX9_away_22 : decode cX9_away 22 = .ok (.iconst 0, 1) := by decide +kernel
theorem dX9_away_23 : decode cX9_away 23 = .ok (.invokevirtual 46, 3) := by decide +kernel
theorem dX9_away_26 : decode cX9_away 26 = .ok (.iconst 2, 1) := by decide +kernel
theorem dX9_away_27 : decode cX9_away 27 = .ok (.if_icmp .ne 6, 3) := by decide +kernel
theorem dX9_away_30 : decode cX9_away 30 = .ok (.ldc 78, 2) := by decide +kernel
theorem dX9_away_32 : decode cX9_away 32 = .ok (.ireturn, 1) := by decide +kernel
theorem dX9_away_33 : decode cX9_away 33 = .ok (.aload_n 0, 1) := by decide +kernel
theorem dX9_away_34 : decode cX9_away 34 = .ok (.invokevirtual 67, 3) := by decide +kernel
theorem dX9_away_37 : decode cX9_away 37 = .ok (.aload_n 0, 1) := by decide +kernel
theorem dX9_away_38 : decode cX9_away 38 = .ok (.iload_n 1, 1) := by decide +kernel
theorem dX9_away_39 : decode cX9_away 39 = .ok (.iconst 0, 1) := by decide +kernel
theorem dX9_away_40 : decode cX9_away 40 = .ok (.invokevirtual 46, 3) := by decide +kernel
theorem dX9_away_43 : decode cX9_away 43 = .ok (.istore_n 3, 1) := by decide +kernel
theorem dX9_away_44 : decode cX9_away 44 = .ok (.aload_n 0, 1) := by decide +kernel
theorem dX9_away_45 : decode cX9_away 45 = .ok (.getfield 7, 3) := by decide +kernel
theorem dX9_away_48 : decode cX9_away 48 = .ok (.bipush 22, 2) := by decide +kernel
theorem dX9_away_50 : decode cX9_away 50 = .ok (.bipush 12, 2) := by decide +kernel
theorem dX9_away_52 : decode cX9_away 52 = .ok (.iload_n 1, 1) := by decide +kernel
theorem dX9_away_53 : decode cX9_away 53 = .ok (.imul, 1) := by decide +kernel
theorem dX9_away_54 : decode cX9_away 54 = .ok (.iadd, 1) := by decide +kernel
theorem dX9_away_55 : decode cX9_away 55 = .ok (.iconst 0, 1) := by decide +kernel
theorem dX9_away_56 : decode cX9_away 56 = .ok (.iadd, 1) := by decide +kernel
theorem dX9_away_57 : decode cX9_away 57 = .ok (.iload_n 2, 1) := by decide +kernel
theorem dX9_away_58 : decode cX9_away 58 = .ok (.iastore, 1) := by decide +kernel
theorem dX9_away_59 : decode cX9_away 59 = .ok (.aload_n 0, 1) := by decide +kernel
theorem dX9_away_60 : decode cX9_away 60 = .ok (.iload_n 3, 1) := by decide +kernel
theorem dX9_away_61 : decode cX9_away 61 = .ok (.invokevirtual 70, 3) := by decide +kernel
theorem dX9_away_64 : decode cX9_away 64 = .ok (.ireturn, 1) := by decide +kernel
theorem dX9_toolsOf_0 : decode cX9_toolsOf 0 = .ok (.iconst 0, 1) := by decide +kernel
theorem dX9_toolsOf_1 : decode cX9_toolsOf 1 = .ok (.istore_n 3, 1) := by decide +kernel
theorem dX9_toolsOf_2 : decode cX9_toolsOf 2 = .ok (.iconst 0, 1) := by decide +kernel
theorem dX9_toolsOf_3 : decode cX9_toolsOf 3 = .ok (.istore 4, 2) := by decide +kernel
theorem dX9_toolsOf_5 : decode cX9_toolsOf 5 = .ok (.iload 4, 2) := by decide +kernel
theorem dX9_toolsOf_7 : decode cX9_toolsOf 7 = .ok (.aload_n 0, 1) := by decide +kernel
theorem dX9_toolsOf_8 : decode cX9_toolsOf 8 = .ok (.getfield 7, 3) := by decide +kernel
theorem dX9_toolsOf_11 : decode cX9_toolsOf 11 = .ok (.bipush 9, 2) := by decide +kernel
theorem dX9_toolsOf_13 : decode cX9_toolsOf 13 = .ok (.iaload, 1) := by decide +kernel
theorem dX9_toolsOf_14 : decode cX9_toolsOf 14 = .ok (.if_icmp .ge 66, 3) := by decide +kernel
theorem dX9_toolsOf_17 : decode cX9_toolsOf 17 = .ok (.aload_n 0, 1) := by decide +kernel
theorem dX9_toolsOf_18 : decode cX9_toolsOf 18 = .ok (.iload 4, 2) := by decide +kernel
theorem dX9_toolsOf_20 : decode cX9_toolsOf 20 = .ok (.iconst 3, 1) := by decide +kernel
theorem dX9_toolsOf_21 : decode cX9_toolsOf 21 = .ok (.invokevirtual 79, 3) := by decide +kernel
theorem dX9_toolsOf_24 : decode cX9_toolsOf 24 = .ok (.iconst 1, 1) := by decide +kernel
theorem dX9_toolsOf_25 : decode cX9_toolsOf 25 = .ok (.if_icmp .eq 18, 3) := by decide +kernel
theorem dX9_toolsOf_28 : decode cX9_toolsOf 28 = .ok (.iload_n 2, 1) := by decide +kernel
theorem dX9_toolsOf_29 : decode cX9_toolsOf 29 = .ok (.ifCond .eq 18, 3) := by decide +kernel
theorem dX9_toolsOf_32 : decode cX9_toolsOf 32 = .ok (.aload_n 0, 1) := by decide +kernel
theorem dX9_toolsOf_33 : decode cX9_toolsOf 33 = .ok (.iload 4, 2) := by decide +kernel
theorem dX9_toolsOf_35 : decode cX9_toolsOf 35 = .ok (.iconst 3, 1) := by decide +kernel
theorem dX9_toolsOf_36 : decode cX9_toolsOf 36 = .ok (.invokevirtual 79, 3) := by decide +kernel
theorem dX9_toolsOf_39 : decode cX9_toolsOf 39 = .ok (.iconst 2, 1) := by decide +kernel
theorem dX9_toolsOf_40 : decode cX9_toolsOf 40 = .ok (.if_icmp .ne 7, 3) := by decide +kernel
theorem dX9_toolsOf_43 : decode cX9_toolsOf 43 = .ok (.iconst 1, 1) := by decide +kernel
theorem dX9_toolsOf_44 : decode cX9_toolsOf 44 = .ok (.goto 4, 3) := by decide +kernel
theorem dX9_toolsOf_47 : decode cX9_toolsOf 47 = .ok (.iconst 0, 1) := by decide +kernel
theorem dX9_toolsOf_48 : decode cX9_toolsOf 48 = .ok (.istore 5, 2) := by decide +kernel
theorem dX9_toolsOf_50 : decode cX9_toolsOf 50 = .ok (.iload_n 3, 1) := by decide +kernel
theorem dX9_toolsOf_51 : decode cX9_toolsOf 51 = .ok (.iload 5, 2) := by decide +kernel
theorem dX9_toolsOf_53 : decode cX9_toolsOf 53 = .ok (.ifCond .eq 18, 3) := by decide +kernel
theorem dX9_toolsOf_56 : decode cX9_toolsOf 56 = .ok (.aload_n 0, 1) := by decide +kernel
theorem dX9_toolsOf_57 : decode cX9_toolsOf 57 = .ok (.iload 4, 2) := by decide +kernel
theorem dX9_toolsOf_59 : decode cX9_toolsOf 59 = .ok (.iconst 4, 1) := by decide +kernel
theorem dX9_toolsOf_60 : decode cX9_toolsOf 60 = .ok (.invokevirtual 79, 3) := by decide +kernel
theorem dX9_toolsOf_63 : decode cX9_toolsOf 63 = .ok (.iload_n 1, 1) := by decide +kernel
theorem dX9_toolsOf_64 : decode cX9_toolsOf 64 = .ok (.if_icmp .ne 7, 3) := by decide +kernel
theorem dX9_toolsOf_67 : decode cX9_toolsOf 67 = .ok (.iconst 1, 1) := by decide +kernel
theorem dX9_toolsOf_68 : decode cX9_toolsOf 68 = .ok (.goto 4, 3) := by decide +kernel
theorem dX9_toolsOf_71 : decode cX9_toolsOf 71 = .ok (.iconst 0, 1) := by decide +kernel
theorem dX9_toolsOf_72 : decode cX9_toolsOf 72 = .ok (.iadd, 1) := by decide +kernel
theorem dX9_toolsOf_73 : decode cX9_toolsOf 73 = .ok (.istore_n 3, 1) := by decide +kernel
theorem dX9_toolsOf_74 : decode cX9_toolsOf 74 = .ok (.iinc 4 1, 3) := by decide +kernel
theorem dX9_toolsOf_77 : decode cX9_toolsOf 77 = .ok (.goto (-72), 3) := by decide +kernel
theorem dX9_toolsOf_80 : decode cX9_toolsOf 80 = .ok (.iload_n 3, 1) := by decide +kernel
theorem dX9_toolsOf_81 : decode cX9_toolsOf 81 = .ok (.ireturn, 1) := by decide +kernel
theorem dX9_isInPanel_0 : decode cX9_isInPanel 0 = .ok (.iconst 0, 1) := by decide +kernel
theorem dX9_isInPanel_1 : decode cX9_isInPanel 1 = .ok (.istore_n 2, 1) := by decide +kernel
theorem dX9_isInPanel_2 : decode cX9_isInPanel 2 = .ok (.iconst 0, 1) := by decide +kernel
theorem dX9_isInPanel_3 : decode cX9_isInPanel 3 = .ok (.istore_n 3, 1) := by decide +kernel
theorem dX9_isInPanel_4 : decode cX9_isInPanel 4 = .ok (.iload_n 3, 1) := by decide +kernel
theorem dX9_isInPanel_5 : decode cX9_isInPanel 5 = .ok (.aload_n 0, 1) := by decide +kernel
theorem dX9_isInPanel_6 : decode cX9_isInPanel 6 = .ok (.getfield 7, 3) := by decide +kernel
theorem dX9_isInPanel_9 : decode cX9_isInPanel 9 = .ok (.bipush 9, 2) := by decide +kernel
theorem dX9_isInPanel_11 : decode cX9_isInPanel 11 = .ok (.iaload, 1) := by decide +kernel
theorem dX9_isInPanel_12 : decode cX9_isInPanel 12 = .ok (.if_icmp .ge 38, 3) := by decide +kernel
theorem dX9_isInPanel_15 : decode cX9_isInPanel 15 = .ok (.iload_n 2, 1) := by decide +kernel
theorem dX9_isInPanel_16 : decode cX9_isInPanel 16 = .ok (.ifCond .ne 22, 3) := by decide +kernel
theorem dX9_isInPanel_19 : decode cX9_isInPanel 19 = .ok (.aload_n 0, 1) := by decide +kernel
theorem dX9_isInPanel_20 : decode cX9_isInPanel 20 = .ok (.iload_n 3, 1) := by decide +kernel
theorem dX9_isInPanel_21 : decode cX9_isInPanel 21 = .ok (.iconst 3, 1) := by decide +kernel
theorem dX9_isInPanel_22 : decode cX9_isInPanel 22 = .ok (.invokevirtual 79, 3) := by decide +kernel
theorem dX9_isInPanel_25 : decode cX9_isInPanel 25 = .ok (.iconst 2, 1) := by decide +kernel
theorem dX9_isInPanel_26 : decode cX9_isInPanel 26 = .ok (.if_icmp .ne 16, 3) := by decide +kernel
theorem dX9_isInPanel_29 : decode cX9_isInPanel 29 = .ok (.aload_n 0, 1) := by decide +kernel
theorem dX9_isInPanel_30 : decode cX9_isInPanel 30 = .ok (.iload_n 3, 1) := by decide +kernel
theorem dX9_isInPanel_31 : decode cX9_isInPanel 31 = .ok (.iload_n 1, 1) := by decide +kernel
theorem dX9_isInPanel_32 : decode cX9_isInPanel 32 = .ok (.invokevirtual 82, 3) := by decide +kernel
theorem dX9_isInPanel_35 : decode cX9_isInPanel 35 = .ok (.ifCond .lt 7, 3) := by decide +kernel
theorem dX9_isInPanel_38 : decode cX9_isInPanel 38 = .ok (.iconst 1, 1) := by decide +kernel
theorem dX9_isInPanel_39 : decode cX9_isInPanel 39 = .ok (.goto 4, 3) := by decide +kernel
theorem dX9_isInPanel_42 : decode cX9_isInPanel 42 = .ok (.iconst 0, 1) := by decide +kernel
theorem dX9_isInPanel_43 : decode cX9_isInPanel 43 = .ok (.istore_n 2, 1) := by decide +kernel
theorem dX9_isInPanel_44 : decode cX9_isInPanel 44 = .ok (.iinc 3 1, 3) := by decide +kernel
theorem dX9_isInPanel_47 : decode cX9_isInPanel 47 = .ok (.goto (-43), 3) := by decide +kernel
theorem dX9_isInPanel_50 : decode cX9_isInPanel 50 = .ok (.iload_n 2, 1) := by decide +kernel
theorem dX9_isInPanel_51 : decode cX9_isInPanel 51 = .ok (.ireturn, 1) := by decide +kernel
theorem dX9_placeIn_0 : decode cX9_placeIn 0 = .ok (.iconst 0, 1) := by decide +kernel
theorem dX9_placeIn_1 : decode cX9_placeIn 1 = .ok (.istore_n 3, 1) := by decide +kernel
theorem dX9_placeIn_2 : decode cX9_placeIn 2 = .ok (.iload_n 3, 1) := by decide +kernel
theorem dX9_placeIn_3 : decode cX9_placeIn 3 = .ok (.iconst 3, 1) := by decide +kernel
theorem dX9_placeIn_4 : decode cX9_placeIn 4 = .ok (.if_icmp .ge 24, 3) := by decide +kernel
theorem dX9_placeIn_7 : decode cX9_placeIn 7 = .ok (.aload_n 0, 1) := by decide +kernel
theorem dX9_placeIn_8 : decode cX9_placeIn 8 = .ok (.iload_n 1, 1) := by decide +kernel
theorem dX9_placeIn_9 : decode cX9_placeIn 9 = .ok (.bipush 12, 2) := by decide +kernel
theorem dX9_placeIn_11 : decode cX9_placeIn 11 = .ok (.iload_n 3, 1) := by decide +kernel
theorem dX9_placeIn_12 : decode cX9_placeIn 12 = .ok (.iadd, 1) := by decide +kernel
theorem dX9_placeIn_13 : decode cX9_placeIn 13 = .ok (.invokevirtual 79, 3) := by decide +kernel
theorem dX9_placeIn_16 : decode cX9_placeIn 16 = .ok (.iload_n 2, 1) := by decide +kernel
theorem dX9_placeIn_17 : decode cX9_placeIn 17 = .ok (.if_icmp .ne 5, 3) := by decide +kernel
theorem dX9_placeIn_20 : decode cX9_placeIn 20 = .ok (.iload_n 3, 1) := by decide +kernel
theorem dX9_placeIn_21 : decode cX9_placeIn 21 = .ok (.ireturn, 1) := by decide +kernel
theorem dX9_placeIn_22 : decode cX9_placeIn 22 = .ok (.iinc 3 1, 3) := by decide +kernel
theorem dX9_placeIn_25 : decode cX9_placeIn 25 = .ok (.goto (-23), 3) := by decide +kernel
theorem dX9_placeIn_28 : decode cX9_placeIn 28 = .ok (.iconst (-1), 1) := by decide +kernel
theorem dX9_placeIn_29 : decode cX9_placeIn 29 = .ok (.ireturn, 1) := by decide +kernel
theorem dX9_turnOf_0 : decode cX9_turnOf 0 = .ok (.iconst 0, 1) := by decide +kernel
theorem dX9_turnOf_1 : decode cX9_turnOf 1 = .ok (.istore_n 2, 1) := by decide +kernel
theorem dX9_turnOf_2 : decode cX9_turnOf 2 = .ok (.iload_n 2, 1) := by decide +kernel
theorem dX9_turnOf_3 : decode cX9_turnOf 3 = .ok (.aload_n 0, 1) := by decide +kernel
theorem dX9_turnOf_4 : decode cX9_turnOf 4 = .ok (.getfield 7, 3) := by decide +kernel
theorem dX9_turnOf_7 : decode cX9_turnOf 7 = .ok (.bipush 11, 2) := by decide +kernel
theorem dX9_turnOf_9 : decode cX9_turnOf 9 = .ok (.iaload, 1) := by decide +kernel
theorem dX9_turnOf_10 : decode cX9_turnOf 10 = .ok (.if_icmp .ge 24, 3) := by decide +kernel
theorem dX9_turnOf_13 : decode cX9_turnOf 13 = .ok (.aload_n 0, 1) := by decide +kernel
theorem dX9_turnOf_14 : decode cX9_turnOf 14 = .ok (.getfield 7, 3) := by decide +kernel
theorem dX9_turnOf_17 : decode cX9_turnOf 17 = .ok (.bipush 12, 2) := by decide +kernel
theorem dX9_turnOf_19 : decode cX9_turnOf 19 = .ok (.iload_n 2, 1) := by decide +kernel
theorem dX9_turnOf_20 : decode cX9_turnOf 20 = .ok (.iadd, 1) := by decide +kernel
theorem dX9_turnOf_21 : decode cX9_turnOf 21 = .ok (.iaload, 1) := by decide +kernel
theorem dX9_turnOf_22 : decode cX9_turnOf 22 = .ok (.iload_n 1, 1) := by decide +kernel
theorem dX9_turnOf_23 : decode cX9_turnOf 23 = .ok (.if_icmp .ne 5, 3) := by decide +kernel
theorem dX9_turnOf_26 : decode cX9_turnOf 26 = .ok (.iload_n 2, 1) := by decide +kernel
theorem dX9_turnOf_27 : decode cX9_turnOf 27 = .ok (.ireturn, 1) := by decide +kernel
theorem dX9_turnOf_28 : decode cX9_turnOf 28 = .ok (.iinc 2 1, 3) := by decide +kernel
theorem dX9_turnOf_31 : decode cX9_turnOf 31 = .ok (.goto (-29), 3) := by decide +kernel
theorem dX9_turnOf_34 : decode cX9_turnOf 34 = .ok (.iconst (-1), 1) := by decide +kernel
theorem dX9_turnOf_35 : decode cX9_turnOf 35 = .ok (.ireturn, 1) := by decide +kernel
theorem dX9_outOfTurns_0 : decode cX9_outOfTurns 0 = .ok (.aload_n 0, 1) := by decide +kernel
theorem dX9_outOfTurns_1 : decode cX9_outOfTurns 1 = .ok (.iload_n 1, 1) := by decide +kernel
theorem dX9_outOfTurns_2 : decode cX9_outOfTurns 2 = .ok (.invokevirtual 85, 3) := by decide +kernel
theorem dX9_outOfTurns_5 : decode cX9_outOfTurns 5 = .ok (.istore_n 2, 1) := by decide +kernel
theorem dX9_outOfTurns_6 : decode cX9_outOfTurns 6 = .ok (.iload_n 2, 1) := by decide +kernel
theorem dX9_outOfTurns_7 : decode cX9_outOfTurns 7 = .ok (.aload_n 0, 1) := by decide +kernel
theorem dX9_outOfTurns_8 : decode cX9_outOfTurns 8 = .ok (.getfield 7, 3) := by decide +kernel
theorem dX9_outOfTurns_11 : decode cX9_outOfTurns 11 = .ok (.bipush 11, 2) := by decide +kernel
theorem dX9_outOfTurns_13 : decode cX9_outOfTurns 13 = .ok (.iaload, 1) := by decide +kernel
theorem dX9_outOfTurns_14 : decode cX9_outOfTurns 14 = .ok (.iconst 1, 1) := by decide +kernel
theorem dX9_outOfTurns_15 : decode cX9_outOfTurns 15 = .ok (.isub, 1) := by decide +kernel
theorem dX9_outOfTurns_16 : decode cX9_outOfTurns 16 = .ok (.if_icmp .ge 29, 3) := by decide +kernel
theorem dX9_outOfTurns_19 : decode cX9_outOfTurns 19 = .ok (.aload_n 0, 1) := by decide +kernel
theorem dX9_outOfTurns_20 : decode cX9_outOfTurns 20 = .ok (.getfield 7, 3) := by decide +kernel
theorem dX9_outOfTurns_23 : decode cX9_outOfTurns 23 = .ok (.bipush 12, 2) := by decide +kernel
theorem dX9_outOfTurns_25 : decode cX9_outOfTurns 25 = .ok (.iload_n 2, 1) := by decide +kernel
theorem dX9_outOfTurns_26 : decode cX9_outOfTurns 26 = .ok (.iadd, 1) := by decide +kernel
theorem dX9_outOfTurns_27 : decode cX9_outOfTurns 27 = .ok (.aload_n 0, 1) := by decide +kernel
theorem dX9_outOfTurns_28 : decode cX9_outOfTurns 28 = .ok (.getfield 7, 3) := by decide +kernel
theorem dX9_outOfTurns_31 : decode cX9_outOfTurns 31 = .ok (.bipush 12, 2) := by decide +kernel
theorem dX9_outOfTurns_33 : decode cX9_outOfTurns 33 = .ok (.iload_n 2, 1) := by decide +kernel
theorem dX9_outOfTurns_34 : decode cX9_outOfTurns 34 = .ok (.iadd, 1) := by decide +kernel
theorem dX9_outOfTurns_35 : decode cX9_outOfTurns 35 = .ok (.iconst 1, 1) := by decide +kernel
theorem dX9_outOfTurns_36 : decode cX9_outOfTurns 36 = .ok (.iadd, 1) := by decide +kernel
theorem dX9_outOfTurns_37 : decode cX9_outOfTurns 37 = .ok (.iaload, 1) := by decide +kernel
theorem dX9_outOfTurns_38 : decode cX9_outOfTurns 38 = .ok (.iastore, 1) := by decide +kernel
theorem dX9_outOfTurns_39 : decode cX9_outOfTurns 39 = .ok (.iinc 2 1, 3) := by decide +kernel
theorem dX9_outOfTurns_42 : decode cX9_outOfTurns 42 = .ok (.goto (-36), 3) := by decide +kernel
theorem dX9_outOfTurns_45 : decode cX9_outOfTurns 45 = .ok (.aload_n 0, 1) := by decide +kernel
theorem dX9_outOfTurns_46 : decode cX9_outOfTurns 46 = .ok (.getfield 7, 3) := by decide +kernel
theorem dX9_outOfTurns_49 : decode cX9_outOfTurns 49 = .ok (.bipush 11, 2) := by decide +kernel
theorem dX9_outOfTurns_51 : decode cX9_outOfTurns 51 = .ok (.dup2, 1) := by decide +kernel
theorem dX9_outOfTurns_52 : decode cX9_outOfTurns 52 = .ok (.iaload, 1) := by decide +kernel
theorem dX9_outOfTurns_53 : decode cX9_outOfTurns 53 = .ok (.iconst 1, 1) := by decide +kernel
theorem dX9_outOfTurns_54 : decode cX9_outOfTurns 54 = .ok (.isub, 1) := by decide +kernel
theorem dX9_outOfTurns_55 : decode cX9_outOfTurns 55 = .ok (.iastore, 1) := by decide +kernel
theorem dX9_outOfTurns_56 : decode cX9_outOfTurns 56 = .ok (.return_, 1) := by decide +kernel
theorem dX9_leave_0 : decode cX9_leave 0 = .ok (.aload_n 0, 1) := by decide +kernel
theorem dX9_leave_1 : decode cX9_leave 1 = .ok (.iload_n 1, 1) := by decide +kernel
theorem dX9_leave_2 : decode cX9_leave 2 = .ok (.invokevirtual 74, 3) := by decide +kernel
theorem dX9_leave_5 : decode cX9_leave 5 = .ok (.ifCond .ne 6, 3) := by decide +kernel
theorem dX9_leave_8 : decode cX9_leave 8 = .ok (.ldc 32, 2) := by decide +kernel
theorem dX9_leave_10 : decode cX9_leave 10 = .ok (.ireturn, 1) := by decide +kernel
theorem dX9_leave_11 : decode cX9_leave 11 = .ok (.aload_n 0, 1) := by decide +kernel
theorem dX9_leave_12 : decode cX9_leave 12 = .ok (.iload_n 1, 1) := by decide +kernel
theorem dX9_leave_13 : decode cX9_leave 13 = .ok (.iconst 0, 1) := by decide +kernel
theorem dX9_leave_14 : decode cX9_leave 14 = .ok (.invokevirtual 46, 3) := by decide +kernel
theorem dX9_leave_17 : decode cX9_leave 17 = .ok (.iconst 2, 1) := by decide +kernel
theorem dX9_leave_18 : decode cX9_leave 18 = .ok (.if_icmp .eq 36, 3) := by decide +kernel
theorem dX9_leave_21 : decode cX9_leave 21 = .ok (.aload_n 0, 1) := by decide +kernel
theorem dX9_leave_22 : decode cX9_leave 22 = .ok (.iload_n 1, 1) := by decide +kernel
theorem dX9_leave_23 : decode cX9_leave 23 = .ok (.iconst 1, 1) := by decide +kernel
theorem dX9_leave_24 : decode cX9_leave 24 = .ok (.invokevirtual 88, 3) := by decide +kernel
theorem dX9_leave_27 : decode cX9_leave 27 = .ok (.ifCond .gt 27, 3) := by decide +kernel
theorem dX9_leave_30 : decode cX9_leave 30 = .ok (.aload_n 0, 1) := by decide +kernel
theorem dX9_leave_31 : decode cX9_leave 31 = .ok (.iload_n 1, 1) := by decide +kernel
theorem dX9_leave_32 : decode cX9_leave 32 = .ok (.invokevirtual 92, 3) := by decide +kernel
theorem dX9_leave_35 : decode cX9_leave 35 = .ok (.ifCond .gt 19, 3) := by decide +kernel
theorem dX9_leave_38 : decode cX9_leave 38 = .ok (.aload_n 0, 1) := by decide +kernel
theorem dX9_leave_39 : decode cX9_leave 39 = .ok (.iload_n 1, 1) := by decide +kernel
theorem dX9_leave_40 : decode cX9_leave 40 = .ok (.invokevirtual 95, 3) := by decide +kernel
theorem dX9_leave_43 : decode cX9_leave 43 = .ok (.ifCond .ne 11, 3) := by decide +kernel
theorem dX9_leave_46 : decode cX9_leave 46 = .ok (.aload_n 0, 1) := by decide +kernel
theorem dX9_leave_47 : decode cX9_leave 47 = .ok (.iload_n 1, 1) := by decide +kernel
theorem dX9_leave_48 : decode cX9_leave 48 = .ok (.invokevirtual 54, 3) := by decide +kernel
theorem dX9_leave_51 : decode cX9_leave 51 = .ok (.ifCond .ne 6, 3) := by decide +kernel
theorem dX9_leave_54 : decode cX9_leave 54 = .ok (.ldc 78, 2) := by decide +kernel
theorem dX9_leave_56 : decode cX9_leave 56 = .ok (.ireturn, 1) := by decide +kernel
theorem dX9_leave_57 : decode cX9_leave 57 = .ok (.aload_n 0, 1) := by decide +kernel
theorem dX9_leave_58 : decode cX9_leave 58 = .ok (.invokevirtual 67, 3) := by decide +kernel
theorem dX9_leave_61 : decode cX9_leave 61 = .ok (.aload_n 0, 1) := by decide +kernel
theorem dX9_leave_62 : decode cX9_leave 62 = .ok (.iload_n 1, 1) := by decide +kernel
theorem dX9_leave_63 : decode cX9_leave 63 = .ok (.iconst 3, 1) := by decide +kernel
theorem dX9_leave_64 : decode cX9_leave 64 = .ok (.invokevirtual 46, 3) := by decide +kernel
theorem dX9_leave_67 : decode cX9_leave 67 = .ok (.istore_n 2, 1) := by decide +kernel
theorem dX9_leave_68 : decode cX9_leave 68 = .ok (.aload_n 0, 1) := by decide +kernel
theorem dX9_leave_69 : decode cX9_leave 69 = .ok (.iload_n 1, 1) := by decide +kernel
theorem dX9_leave_70 : decode cX9_leave 70 = .ok (.invokevirtual 98, 3) := by decide +kernel
theorem dX9_leave_73 : decode cX9_leave 73 = .ok (.aload_n 0, 1) := by decide +kernel
theorem dX9_leave_74 : decode cX9_leave 74 = .ok (.getfield 7, 3) := by decide +kernel
theorem dX9_leave_77 : decode cX9_leave 77 = .ok (.bipush 22, 2) := by decide +kernel
theorem dX9_leave_79 : decode cX9_leave 79 = .ok (.bipush 12, 2) := by decide +kernel
theorem dX9_leave_81 : decode cX9_leave 81 = .ok (.iload_n 1, 1) := by decide +kernel
theorem dX9_leave_82 : decode cX9_leave 82 = .ok (.imul, 1) := by decide +kernel
theorem dX9_leave_83 : decode cX9_leave 83 = .ok (.iadd, 1) := by decide +kernel
theorem dX9_leave_84 : decode cX9_leave 84 = .ok (.iconst 0, 1) := by decide +kernel
theorem dX9_leave_85 : decode cX9_leave 85 = .ok (.iadd, 1) := by decide +kernel
theorem dX9_leave_86 : decode cX9_leave 86 = .ok (.iconst 2, 1) := by decide +kernel
theorem dX9_leave_87 : decode cX9_leave 87 = .ok (.iastore, 1) := by decide +kernel
theorem dX9_leave_88 : decode cX9_leave 88 = .ok (.aload_n 0, 1) := by decide +kernel
theorem dX9_leave_89 : decode cX9_leave 89 = .ok (.iload_n 1, 1) := by decide +kernel
theorem dX9_leave_90 : decode cX9_leave 90 = .ok (.iconst 3, 1) := by decide +kernel
theorem dX9_leave_91 : decode cX9_leave 91 = .ok (.iload_n 2, 1) := by decide +kernel
theorem dX9_leave_92 : decode cX9_leave 92 = .ok (.ineg, 1) := by decide +kernel
theorem dX9_leave_93 : decode cX9_leave 93 = .ok (.invokevirtual 42, 3) := by decide +kernel
theorem dX9_leave_96 : decode cX9_leave 96 = .ok (.aload_n 0, 1) := by decide +kernel
theorem dX9_leave_97 : decode cX9_leave 97 = .ok (.iload_n 1, 1) := by decide +kernel
theorem dX9_leave_98 : decode cX9_leave 98 = .ok (.iconst 4, 1) := by decide +kernel
theorem dX9_leave_99 : decode cX9_leave 99 = .ok (.iload_n 2, 1) := by decide +kernel
theorem dX9_leave_100 : decode cX9_leave 100 = .ok (.invokevirtual 42, 3) := by decide +kernel
theorem dX9_leave_103 : decode cX9_leave 103 = .ok (.aload_n 0, 1) := by decide +kernel
theorem dX9_leave_104 : decode cX9_leave 104 = .ok (.iload_n 2, 1) := by decide +kernel
theorem dX9_leave_105 : decode cX9_leave 105 = .ok (.iload_n 1, 1) := by decide +kernel
theorem dX9_leave_106 : decode cX9_leave 106 = .ok (.iconst (-1), 1) := by decide +kernel
theorem dX9_leave_107 : decode cX9_leave 107 = .ok (.invokevirtual 102, 3) := by decide +kernel
theorem dX9_leave_110 : decode cX9_leave 110 = .ok (.aload_n 0, 1) := by decide +kernel
theorem dX9_leave_111 : decode cX9_leave 111 = .ok (.iload_n 2, 1) := by decide +kernel
theorem dX9_leave_112 : decode cX9_leave 112 = .ok (.invokevirtual 70, 3) := by decide +kernel
theorem dX9_leave_115 : decode cX9_leave 115 = .ok (.ireturn, 1) := by decide +kernel
theorem dX9_noGift_0 : decode cX9_noGift 0 = .ok (.aload_n 0, 1) := by decide +kernel
theorem dX9_noGift_1 : decode cX9_noGift 1 = .ok (.iload_n 1, 1) := by decide +kernel
theorem dX9_noGift_2 : decode cX9_noGift 2 = .ok (.invokevirtual 74, 3) := by decide +kernel
theorem dX9_noGift_5 : decode cX9_noGift 5 = .ok (.ifCond .ne 7, 3) := by decide +kernel
theorem dX9_noGift_8 : decode cX9_noGift 8 = .ok (.iconst 2, 1) := by decide +kernel
theorem dX9_noGift_9 : decode cX9_noGift 9 = .ok (.goto 29, 3) := by decide +kernel
theorem dX9_noGift_12 : decode cX9_noGift 12 = .ok (.iload_n 2, 1) := by decide +kernel
theorem dX9_noGift_13 : decode cX9_noGift 13 = .ok (.iconst 1, 1) := by decide +kernel
theorem dX9_noGift_14 : decode cX9_noGift 14 = .ok (.sipush 400, 3) := by decide +kernel
theorem dX9_noGift_17 : decode cX9_noGift 17 = .ok (.invokestatic 38, 3) := by decide +kernel
theorem dX9_noGift_20 : decode cX9_noGift 20 = .ok (.ifCond .eq 13, 3) := by decide +kernel
theorem dX9_noGift_23 : decode cX9_noGift 23 = .ok (.aload_n 0, 1) := by decide +kernel
theorem dX9_noGift_24 : decode cX9_noGift 24 = .ok (.iload_n 1, 1) := by decide +kernel
theorem dX9_noGift_25 : decode cX9_noGift 25 = .ok (.iconst 0, 1) := by decide +kernel
theorem dX9_noGift_26 : decode cX9_noGift 26 = .ok (.invokevirtual 46, 3) := by decide +kernel
theorem dX9_noGift_29 : decode cX9_noGift 29 = .ok (.iconst 2, 1) := by decide +kernel
theorem dX9_noGift_30 : decode cX9_noGift 30 = .ok (.if_icmp .ne 7, 3) := by decide +kernel
theorem dX9_noGift_33 : decode cX9_noGift 33 = .ok (.iconst 3, 1) := by decide +kernel
theorem dX9_noGift_34 : decode cX9_noGift 34 = .ok (.goto 4, 3) := by decide +kernel
theorem dX9_noGift_37 : decode cX9_noGift 37 = .ok (.iconst 0, 1) := by decide +kernel
theorem dX9_noGift_38 : decode cX9_noGift 38 = .ok (.ireturn, 1) := by decide +kernel
theorem dX9_give_0 : decode cX9_give 0 = .ok (.aload_n 0, 1) := by decide +kernel
theorem dX9_give_1 : decode cX9_give 1 = .ok (.iload_n 1, 1) := by decide +kernel
theorem dX9_give_2 : decode cX9_give 2 = .ok (.invokevirtual 74, 3) := by decide +kernel
theorem dX9_give_5 : decode cX9_give 5 = .ok (.ifCond .eq 14, 3) := by decide +kernel
theorem dX9_give_8 : decode cX9_give 8 = .ok (.iload_n 2, 1) := by decide +kernel
theorem dX9_give_9 : decode cX9_give 9 = .ok (.iconst 1, 1) := by decide +kernel
theorem dX9_give_10 : decode cX9_give 10 = .ok (.sipush 400, 3) := by decide +kernel
theorem dX9_give_13 : decode cX9_give 13 = .ok (.invokestatic 38, 3) := by decide +kernel
theorem dX9_give_16 : decode cX9_give 16 = .ok (.ifCond .ne 6, 3) := by decide +kernel
theorem dX9_give_19 : decode cX9_give 19 = .ok (.ldc 32, 2) := by decide +kernel
theorem dX9_give_21 : decode cX9_give 21 = .ok (.ireturn, 1) := by decide +kernel
theorem dX9_give_22 : decode cX9_give 22 = .ok (.aload_n 0, 1) := by decide +kernel
theorem dX9_give_23 : decode cX9_give 23 = .ok (.iload_n 1, 1) := by decide +kernel
theorem dX9_give_24 : decode cX9_give 24 = .ok (.iload_n 2, 1) := by decide +kernel
theorem dX9_give_25 : decode cX9_give 25 = .ok (.invokevirtual 105, 3) := by decide +kernel
theorem dX9_give_28 : decode cX9_give 28 = .ok (.ifCond .eq 6, 3) := by decide +kernel
theorem dX9_give_31 : decode cX9_give 31 = .ok (.ldc 78, 2) := by decide +kernel
theorem dX9_give_33 : decode cX9_give 33 = .ok (.ireturn, 1) := by decide +kernel
theorem dX9_give_34 : decode cX9_give 34 = .ok (.aload_n 0, 1) := by decide +kernel
theorem dX9_give_35 : decode cX9_give 35 = .ok (.invokevirtual 67, 3) := by decide +kernel
theorem dX9_give_38 : decode cX9_give 38 = .ok (.aload_n 0, 1) := by decide +kernel
theorem dX9_give_39 : decode cX9_give 39 = .ok (.iload_n 1, 1) := by decide +kernel
theorem dX9_give_40 : decode cX9_give 40 = .ok (.iload_n 2, 1) := by decide +kernel
theorem dX9_give_41 : decode cX9_give 41 = .ok (.iconst 1, 1) := by decide +kernel
theorem dX9_give_42 : decode cX9_give 42 = .ok (.invokevirtual 58, 3) := by decide +kernel
theorem dX9_give_45 : decode cX9_give 45 = .ok (.aload_n 0, 1) := by decide +kernel
theorem dX9_give_46 : decode cX9_give 46 = .ok (.aload_n 0, 1) := by decide +kernel
theorem dX9_give_47 : decode cX9_give 47 = .ok (.iload_n 1, 1) := by decide +kernel
theorem dX9_give_48 : decode cX9_give 48 = .ok (.iconst 3, 1) := by decide +kernel
theorem dX9_give_49 : decode cX9_give 49 = .ok (.invokevirtual 46, 3) := by decide +kernel
theorem dX9_give_52 : decode cX9_give 52 = .ok (.invokevirtual 70, 3) := by decide +kernel
theorem dX9_give_55 : decode cX9_give 55 = .ok (.ireturn, 1) := by decide +kernel
theorem dX9_memberOf_0 : decode cX9_memberOf 0 = .ok (.aload_n 0, 1) := by decide +kernel
theorem dX9_memberOf_1 : decode cX9_memberOf 1 = .ok (.iload_n 1, 1) := by decide +kernel
theorem dX9_memberOf_2 : decode cX9_memberOf 2 = .ok (.invokevirtual 74, 3) := by decide +kernel
theorem dX9_memberOf_5 : decode cX9_memberOf 5 = .ok (.ifCond .eq 13, 3) := by decide +kernel
theorem dX9_memberOf_8 : decode cX9_memberOf 8 = .ok (.iload_n 2, 1) := by decide +kernel
theorem dX9_memberOf_9 : decode cX9_memberOf 9 = .ok (.iconst 0, 1) := by decide +kernel
theorem dX9_memberOf_10 : decode cX9_memberOf 10 = .ok (.bipush 13, 2) := by decide +kernel
theorem dX9_memberOf_12 : decode cX9_memberOf 12 = .ok (.invokestatic 38, 3) := by decide +kernel
theorem dX9_memberOf_15 : decode cX9_memberOf 15 = .ok (.ifCond .ne 6, 3) := by decide +kernel
theorem dX9_memberOf_18 : decode cX9_memberOf 18 = .ok (.ldc 32, 2) := by decide +kernel
theorem dX9_memberOf_20 : decode cX9_memberOf 20 = .ok (.ireturn, 1) := by decide +kernel
theorem dX9_memberOf_21 : decode cX9_memberOf 21 = .ok (.iload_n 2, 1) := by decide +kernel
theorem dX9_memberOf_22 : decode cX9_memberOf 22 = .ok (.bipush 12, 2) := by decide +kernel
theorem dX9_memberOf_24 : decode cX9_memberOf 24 = .ok (.if_icmp .ge 10, 3) := by decide +kernel
theorem dX9_memberOf_27 : decode cX9_memberOf 27 = .ok (.aload_n 0, 1) := by decide +kernel
theorem dX9_memberOf_28 : decode cX9_memberOf 28 = .ok (.iload_n 1, 1) := by decide +kernel
theorem dX9_memberOf_29 : decode cX9_memberOf 29 = .ok (.iload_n 2, 1) := by decide +kernel
theorem dX9_memberOf_30 : decode cX9_memberOf 30 = .ok (.invokevirtual 46, 3) := by decide +kernel
theorem dX9_memberOf_33 : decode cX9_memberOf 33 = .ok (.ireturn, 1) := by decide +kernel
theorem dX9_memberOf_34 : decode cX9_memberOf 34 = .ok (.iload_n 2, 1) := by decide +kernel
theorem dX9_memberOf_35 : decode cX9_memberOf 35 = .ok (.bipush 12, 2) := by decide +kernel
theorem dX9_memberOf_37 : decode cX9_memberOf 37 = .ok (.if_icmp .ne 10, 3) := by decide +kernel
theorem dX9_memberOf_40 : decode cX9_memberOf 40 = .ok (.aload_n 0, 1) := by decide +kernel
theorem dX9_memberOf_41 : decode cX9_memberOf 41 = .ok (.iload_n 1, 1) := by decide +kernel
theorem dX9_memberOf_42 : decode cX9_memberOf 42 = .ok (.iconst 0, 1) := by decide +kernel
theorem dX9_memberOf_43 : decode cX9_memberOf 43 = .ok (.invokevirtual 88, 3) := by decide +kernel
theorem dX9_memberOf_46 : decode cX9_memberOf 46 = .ok (.ireturn, 1) := by decide +kernel
theorem dX9_memberOf_47 : decode cX9_memberOf 47 = .ok (.aload_n 0, 1) := by decide +kernel
theorem dX9_memberOf_48 : decode cX9_memberOf 48 = .ok (.iload_n 1, 1) := by decide +kernel
theorem dX9_memberOf_49 : decode cX9_memberOf 49 = .ok (.iconst 0, 1) := by decide +kernel
theorem dX9_memberOf_50 : decode cX9_memberOf 50 = .ok (.invokevirtual 46, 3) := by decide +kernel
theorem dX9_memberOf_53 : decode cX9_memberOf 53 = .ok (.iconst 2, 1) := by decide +kernel
theorem dX9_memberOf_54 : decode cX9_memberOf 54 = .ok (.if_icmp .ne 8, 3) := by decide +kernel
theorem dX9_memberOf_57 : decode cX9_memberOf 57 = .ok (.ldc 33, 2) := by decide +kernel
theorem dX9_memberOf_59 : decode cX9_memberOf 59 = .ok (.goto 8, 3) := by decide +kernel
theorem dX9_memberOf_62 : decode cX9_memberOf 62 = .ok (.aload_n 0, 1) := by decide +kernel
theorem dX9_memberOf_63 : decode cX9_memberOf 63 = .ok (.iload_n 1, 1) := by decide +kernel
theorem dX9_memberOf_64 : decode cX9_memberOf 64 = .ok (.invokevirtual 85, 3) := by decide +kernel
theorem dX9_memberOf_67 : decode cX9_memberOf 67 = .ok (.ireturn, 1) := by decide +kernel
theorem dX9_account_0 : decode cX9_account 0 = .ok (.iload_n 1, 1) := by decide +kernel
theorem dX9_account_1 : decode cX9_account 1 = .ok (.iconst 1, 1) := by decide +kernel
theorem dX9_account_2 : decode cX9_account 2 = .ok (.bipush 11, 2) := by decide +kernel
theorem dX9_account_4 : decode cX9_account 4 = .ok (.invokestatic 38, 3) := by decide +kernel
theorem dX9_account_7 : decode cX9_account 7 = .ok (.ifCond .ne 6, 3) := by decide +kernel
theorem dX9_account_10 : decode cX9_account 10 = .ok (.ldc 32, 2) := by decide +kernel
theorem dX9_account_12 : decode cX9_account 12 = .ok (.ireturn, 1) := by decide +kernel
theorem dX9_account_13 : decode cX9_account 13 = .ok (.iload_n 1, 1) := by decide +kernel
theorem dX9_account_14 : decode cX9_account 14 = .ok (.bipush 11, 2) := by decide +kernel
theorem dX9_account_16 : decode cX9_account 16 = .ok (.if_icmp .ne 13, 3) := by decide +kernel
theorem dX9_account_19 : decode cX9_account 19 = .ok (.aload_n 0, 1) := by decide +kernel
theorem dX9_account_20 : decode cX9_account 20 = .ok (.getfield 7, 3) := by decide +kernel
theorem dX9_account_23 : decode cX9_account 23 = .ok (.bipush 10, 2) := by decide +kernel
theorem dX9_account_25 : decode cX9_account 25 = .ok (.iaload, 1) := by decide +kernel
theorem dX9_account_26 : decode cX9_account 26 = .ok (.goto 4, 3) := by decide +kernel
theorem dX9_account_29 : decode cX9_account 29 = .ok (.iconst 0, 1) := by decide +kernel
theorem dX9_account_30 : decode cX9_account 30 = .ok (.istore_n 2, 1) := by decide +kernel
theorem dX9_account_31 : decode cX9_account 31 = .ok (.iconst 0, 1) := by decide +kernel
theorem dX9_account_32 : decode cX9_account 32 = .ok (.istore_n 3, 1) := by decide +kernel
theorem dX9_account_33 : decode cX9_account 33 = .ok (.iload_n 3, 1) := by decide +kernel
theorem dX9_account_34 : decode cX9_account 34 = .ok (.aload_n 0, 1) := by decide +kernel
theorem dX9_account_35 : decode cX9_account 35 = .ok (.getfield 7, 3) := by decide +kernel
theorem dX9_account_38 : decode cX9_account 38 = .ok (.bipush 8, 2) := by decide +kernel
theorem dX9_account_40 : decode cX9_account 40 = .ok (.iaload, 1) := by decide +kernel
theorem dX9_account_41 : decode cX9_account 41 = .ok (.if_icmp .ge 28, 3) := by decide +kernel
theorem dX9_account_44 : decode cX9_account 44 = .ok (.iload_n 2, 1) := by decide +kernel
theorem dX9_account_45 : decode cX9_account 45 = .ok (.iload_n 1, 1) := by decide +kernel
theorem dX9_account_46 : decode cX9_account 46 = .ok (.bipush 11, 2) := by decide +kernel
theorem dX9_account_48 : decode cX9_account 48 = .ok (.if_icmp .ge 12, 3) := by decide +kernel
theorem dX9_account_51 : decode cX9_account 51 = .ok (.aload_n 0, 1) := by decide +kernel
theorem dX9_account_52 : decode cX9_account 52 = .ok (.iload_n 3, 1) := by decide +kernel
theorem dX9_account_53 : decode cX9_account 53 = .ok (.iload_n 1, 1) := by decide +kernel
theorem dX9_account_54 : decode cX9_account 54 = .ok (.invokevirtual 46, 3) := by decide +kernel
theorem dX9_account_57 : decode cX9_account 57 = .ok (.goto 4, 3) := by decide +kernel
theorem dX9_account_60 : decode cX9_account 60 = .ok (.iconst 0, 1) := by decide +kernel
theorem dX9_account_61 : decode cX9_account 61 = .ok (.iadd, 1) := by decide +kernel
theorem dX9_account_62 : decode cX9_account 62 = .ok (.istore_n 2, 1) := by decide +kernel
theorem dX9_account_63 : decode cX9_account 63 = .ok (.iinc 3 1, 3) := by decide +kernel
theorem dX9_account_66 : decode cX9_account 66 = .ok (.goto (-33), 3) := by decide +kernel
theorem dX9_account_69 : decode cX9_account 69 = .ok (.iload_n 2, 1) := by decide +kernel
theorem dX9_account_70 : decode cX9_account 70 = .ok (.ireturn, 1) := by decide +kernel
theorem dX9_debtorAt_0 : decode cX9_debtorAt 0 = .ok (.iload_n 1, 1) := by decide +kernel
theorem dX9_debtorAt_1 : decode cX9_debtorAt 1 = .ok (.ifCond .ge 6, 3) := by decide +kernel
theorem dX9_debtorAt_4 : decode cX9_debtorAt 4 = .ok (.ldc 32, 2) := by decide +kernel
theorem dX9_debtorAt_6 : decode cX9_debtorAt 6 = .ok (.ireturn, 1) := by decide +kernel
theorem dX9_debtorAt_7 : decode cX9_debtorAt 7 = .ok (.iconst 0, 1) := by decide +kernel
theorem dX9_debtorAt_8 : decode cX9_debtorAt 8 = .ok (.istore_n 2, 1) := by decide +kernel
theorem dX9_debtorAt_9 : decode cX9_debtorAt 9 = .ok (.iload_n 2, 1) := by decide +kernel
theorem dX9_debtorAt_10 : decode cX9_debtorAt 10 = .ok (.aload_n 0, 1) := by decide +kernel
theorem dX9_debtorAt_11 : decode cX9_debtorAt 11 = .ok (.getfield 7, 3) := by decide +kernel
theorem dX9_debtorAt_14 : decode cX9_debtorAt 14 = .ok (.bipush 8, 2) := by decide +kernel
theorem dX9_debtorAt_16 : decode cX9_debtorAt 16 = .ok (.iaload, 1) := by decide +kernel
theorem dX9_debtorAt_17 : decode cX9_debtorAt 17 = .ok (.if_icmp .ge 89, 3) := by decide +kernel
theorem dX9_debtorAt_20 : decode cX9_debtorAt 20 = .ok (.iconst 0, 1) := by decide +kernel
theorem dX9_debtorAt_21 : decode cX9_debtorAt 21 = .ok (.istore_n 3, 1) := by decide +kernel
theorem dX9_debtorAt_22 : decode cX9_debtorAt 22 = .ok (.iconst 0, 1) := by decide +kernel
theorem dX9_debtorAt_23 : decode cX9_debtorAt 23 = .ok (.istore 4, 2) := by decide +kernel
theorem dX9_debtorAt_25 : decode cX9_debtorAt 25 = .ok (.iload 4, 2) := by decide +kernel
theorem dX9_debtorAt_27 : decode cX9_debtorAt 27 = .ok (.aload_n 0, 1) := by decide +kernel
theorem dX9_debtorAt_28 : decode cX9_debtorAt 28 = .ok (.getfield 7, 3) := by decide +kernel
theorem dX9_debtorAt_31 : decode cX9_debtorAt 31 = .ok (.bipush 8, 2) := by decide +kernel
theorem dX9_debtorAt_33 : decode cX9_debtorAt 33 = .ok (.iaload, 1) := by decide +kernel
theorem dX9_debtorAt_34 : decode cX9_debtorAt 34 = .ok (.if_icmp .ge 51, 3) := by decide +kernel
theorem dX9_debtorAt_37 : decode cX9_debtorAt 37 = .ok (.iload_n 3, 1) := by decide +kernel
theorem dX9_debtorAt_38 : decode cX9_debtorAt 38 = .ok (.aload_n 0, 1) := by decide +kernel
theorem dX9_debtorAt_39 : decode cX9_debtorAt 39 = .ok (.iload 4, 2) := by decide +kernel
theorem dX9_debtorAt_41 : decode cX9_debtorAt 41 = .ok (.invokevirtual 92, 3) := by decide +kernel
theorem dX9_debtorAt_44 : decode cX9_debtorAt 44 = .ok (.aload_n 0, 1) := by decide +kernel
theorem dX9_debtorAt_45 : decode cX9_debtorAt 45 = .ok (.iload_n 2, 1) := by decide +kernel
theorem dX9_debtorAt_46 : decode cX9_debtorAt 46 = .ok (.invokevirtual 92, 3) := by decide +kernel
theorem dX9_debtorAt_49 : decode cX9_debtorAt 49 = .ok (.if_icmp .gt 23, 3) := by decide +kernel
theorem dX9_debtorAt_52 : decode cX9_debtorAt 52 = .ok (.aload_n 0, 1) := by decide +kernel
theorem dX9_debtorAt_53 : decode cX9_debtorAt 53 = .ok (.iload 4, 2) := by decide +kernel
theorem dX9_debtorAt_55 : decode cX9_debtorAt 55 = .ok (.invokevirtual 92, 3) := by decide +kernel
theorem dX9_debtorAt_58 : decode cX9_debtorAt 58 = .ok (.aload_n 0, 1) := by decide +kernel
theorem dX9_debtorAt_59 : decode cX9_debtorAt 59 = .ok (.iload_n 2, 1) := by decide +kernel
theorem dX9_debtorAt_60 : decode cX9_debtorAt 60 = .ok (.invokevirtual 92, 3) := by decide +kernel
theorem dX9_debtorAt_63 : decode cX9_debtorAt 63 = .ok (.if_icmp .ne 13, 3) := by decide +kernel
theorem dX9_debtorAt_66 : decode cX9_debtorAt 66 = .ok (.iload 4, 2) := by decide +kernel
theorem dX9_debtorAt_68 : decode cX9_debtorAt 68 = .ok (.iload_n 2, 1) := by decide +kernel
theorem dX9_debtorAt_69 : decode cX9_debtorAt 69 = .ok (.if_icmp .ge 7, 3) := by decide +kernel
theorem dX9_debtorAt_72 : decode cX9_debtorAt 72 = .ok (.iconst 1, 1) := by decide +kernel
theorem dX9_debtorAt_73 : decode cX9_debtorAt 73 = .ok (.goto 4, 3) := by decide +kernel
theorem dX9_debtorAt_76 : decode cX9_debtorAt 76 = .ok (.iconst 0, 1) := by decide +kernel
theorem dX9_debtorAt_77 : decode cX9_debtorAt 77 = .ok (.iadd, 1) := by decide +kernel
theorem dX9_debtorAt_78 : decode cX9_debtorAt 78 = .ok (.istore_n 3, 1) := by decide +kernel
theorem dX9_debtorAt_79 : decode cX9_debtorAt 79 = .ok (.iinc 4 1, 3) := by decide +kernel
theorem dX9_debtorAt_82 : decode cX9_debtorAt 82 = .ok (.goto (-57), 3) := by decide +kernel
theorem dX9_debtorAt_85 : decode cX9_debtorAt 85 = .ok (.aload_n 0, 1) := by decide +kernel
theorem dX9_debtorAt_86 : decode cX9_debtorAt 86 = .ok (.iload_n 2, 1) := by decide +kernel
theorem dX9_debtorAt_87 : decode cX9_debtorAt 87 = .ok (.invokevirtual 92, 3) := by decide +kernel
theorem dX9_debtorAt_90 : decode cX9_debtorAt 90 = .ok (.ifCond .le 10, 3) := by decide +kernel
theorem dX9_debtorAt_93 : decode cX9_debtorAt 93 = .ok (.iload_n 3, 1) := by decide +kernel
theorem dX9_debtorAt_94 : decode cX9_debtorAt 94 = .ok (.iload_n 1, 1) := by decide +kernel
theorem dX9_debtorAt_95 : decode cX9_debtorAt 95 = .ok (.if_icmp .ne 5, 3) := by decide +kernel
theorem dX9_debtorAt_98 : decode cX9_debtorAt 98 = .ok (.iload_n 2, 1) := by decide +kernel
theorem dX9_debtorAt_99 : decode cX9_debtorAt 99 = .ok (.ireturn, 1) := by decide +kernel
theorem dX9_debtorAt_100 : decode cX9_debtorAt 100 = .ok (.iinc 2 1, 3) := by decide +kernel
theorem dX9_debtorAt_103 : decode cX9_debtorAt 103 = .ok (.goto (-94), 3) := by decide +kernel
theorem dX9_debtorAt_106 : decode cX9_debtorAt 106 = .ok (.ldc 33, 2) := by decide +kernel
theorem dX9_debtorAt_108 : decode cX9_debtorAt 108 = .ok (.ireturn, 1) := by decide +kernel
theorem dX9_real_0 : decode cX9_real 0 = .ok (.iload_n 0, 1) := by decide +kernel
theorem dX9_real_1 : decode cX9_real 1 = .ok (.invokestatic 108, 3) := by decide +kernel
theorem dX9_real_4 : decode cX9_real 4 = .ok (.freturn, 1) := by decide +kernel
theorem dX9_bitsOf_0 : decode cX9_bitsOf 0 = .ok (.fload_n 0, 1) := by decide +kernel
theorem dX9_bitsOf_1 : decode cX9_bitsOf 1 = .ok (.invokestatic 114, 3) := by decide +kernel
theorem dX9_bitsOf_4 : decode cX9_bitsOf 4 = .ok (.ireturn, 1) := by decide +kernel
theorem dX9_thousandths_0 : decode cX9_thousandths 0 = .ok (.fload_n 0, 1) := by decide +kernel
theorem dX9_thousandths_1 : decode cX9_thousandths 1 = .ok (.ldc 118, 2) := by decide +kernel
theorem dX9_thousandths_3 : decode cX9_thousandths 3 = .ok (.fmul, 1) := by decide +kernel
theorem dX9_thousandths_4 : decode cX9_thousandths 4 = .ok (.f2i, 1) := by decide +kernel
theorem dX9_thousandths_5 : decode cX9_thousandths 5 = .ok (.ireturn, 1) := by decide +kernel
theorem dX9_duller_0 : decode cX9_duller 0 = .ok (.aload_n 0, 1) := by decide +kernel
theorem dX9_duller_1 : decode cX9_duller 1 = .ok (.iload_n 1, 1) := by decide +kernel
theorem dX9_duller_2 : decode cX9_duller 2 = .ok (.bipush 6, 2) := by decide +kernel
theorem dX9_duller_4 : decode cX9_duller 4 = .ok (.invokevirtual 79, 3) := by decide +kernel
theorem dX9_duller_7 : decode cX9_duller 7 = .ok (.invokestatic 119, 3) := by decide +kernel
theorem dX9_duller_10 : decode cX9_duller 10 = .ok (.fstore_n 3, 1) := by decide +kernel
theorem dX9_duller_11 : decode cX9_duller 11 = .ok (.bipush 100, 2) := by decide +kernel
theorem dX9_duller_13 : decode cX9_duller 13 = .ok (.aload_n 0, 1) := by decide +kernel
theorem dX9_duller_14 : decode cX9_duller 14 = .ok (.iload_n 1, 1) := by decide +kernel
theorem dX9_duller_15 : decode cX9_duller 15 = .ok (.iconst 2, 1) := by decide +kernel
theorem dX9_duller_16 : decode cX9_duller 16 = .ok (.invokevirtual 79, 3) := by decide +kernel
theorem dX9_duller_19 : decode cX9_duller 19 = .ok (.isub, 1) := by decide +kernel
theorem dX9_duller_20 : decode cX9_duller 20 = .ok (.i2f, 1) := by decide +kernel
theorem dX9_duller_21 : decode cX9_duller 21 = .ok (.fstore 4, 2) := by decide +kernel
theorem dX9_duller_23 : decode cX9_duller 23 = .ok (.iconst 0, 1) := by decide +kernel
theorem dX9_duller_24 : decode cX9_duller 24 = .ok (.istore 5, 2) := by decide +kernel
theorem dX9_duller_26 : decode cX9_duller 26 = .ok (.iload 5, 2) := by decide +kernel
theorem dX9_duller_28 : decode cX9_duller 28 = .ok (.iload_n 2, 1) := by decide +kernel
theorem dX9_duller_29 : decode cX9_duller 29 = .ok (.if_icmp .ge 17, 3) := by decide +kernel
theorem dX9_duller_32 : decode cX9_duller 32 = .ok (.fload_n 3, 1) := by decide +kernel
theorem dX9_duller_33 : decode cX9_duller 33 = .ok (.fload 4, 2) := by decide +kernel
theorem dX9_duller_35 : decode cX9_duller 35 = .ok (.fmul, 1) := by decide +kernel
theorem dX9_duller_36 : decode cX9_duller 36 = .ok (.ldc 122, 2) := by decide +kernel
theorem dX9_duller_38 : decode cX9_duller 38 = .ok (.fdiv, 1) := by decide +kernel
theorem dX9_duller_39 : decode cX9_duller 39 = .ok (.fstore_n 3, 1) := by decide +kernel
theorem dX9_duller_40 : decode cX9_duller 40 = .ok (.iinc 5 1, 3) := by decide +kernel
theorem dX9_duller_43 : decode cX9_duller 43 = .ok (.goto (-17), 3) := by decide +kernel
theorem dX9_duller_46 : decode cX9_duller 46 = .ok (.fload_n 3, 1) := by decide +kernel
theorem dX9_duller_47 : decode cX9_duller 47 = .ok (.freturn, 1) := by decide +kernel
theorem dX9_tool_0 : decode cX9_tool 0 = .ok (.iload_n 1, 1) := by decide +kernel
theorem dX9_tool_1 : decode cX9_tool 1 = .ok (.iconst 0, 1) := by decide +kernel
theorem dX9_tool_2 : decode cX9_tool 2 = .ok (.iconst 1, 1) := by decide +kernel
theorem dX9_tool_3 : decode cX9_tool 3 = .ok (.invokestatic 38, 3) := by decide +kernel
theorem dX9_tool_6 : decode cX9_tool 6 = .ok (.ifCond .eq 24, 3) := by decide +kernel
theorem dX9_tool_9 : decode cX9_tool 9 = .ok (.iload_n 2, 1) := by decide +kernel
theorem dX9_tool_10 : decode cX9_tool 10 = .ok (.iconst 1, 1) := by decide +kernel
theorem dX9_tool_11 : decode cX9_tool 11 = .ok (.sipush 400, 3) := by decide +kernel
theorem dX9_tool_14 : decode cX9_tool 14 = .ok (.invokestatic 38, 3) := by decide +kernel
theorem dX9_tool_17 : decode cX9_tool 17 = .ok (.ifCond .eq 13, 3) := by decide +kernel
theorem dX9_tool_20 : decode cX9_tool 20 = .ok (.iload_n 3, 1) := by decide +kernel
theorem dX9_tool_21 : decode cX9_tool 21 = .ok (.iconst 0, 1) := by decide +kernel
theorem dX9_tool_22 : decode cX9_tool 22 = .ok (.bipush 50, 2) := by decide +kernel
theorem dX9_tool_24 : decode cX9_tool 24 = .ok (.invokestatic 38, 3) := by decide +kernel
theorem dX9_tool_27 : decode cX9_tool 27 = .ok (.ifCond .ne 6, 3) := by decide +kernel
theorem dX9_tool_30 : decode cX9_tool 30 = .ok (.ldc 32, 2) := by decide +kernel
theorem dX9_tool_32 : decode cX9_tool 32 = .ok (.ireturn, 1) := by decide +kernel
theorem dX9_tool_33 : decode cX9_tool 33 = .ok (.aload_n 0, 1) := by decide +kernel
theorem dX9_tool_34 : decode cX9_tool 34 = .ok (.getfield 7, 3) := by decide +kernel
theorem dX9_tool_37 : decode cX9_tool 37 = .ok (.bipush 9, 2) := by decide +kernel
theorem dX9_tool_39 : decode cX9_tool 39 = .ok (.iaload, 1) := by decide +kernel
theorem dX9_tool_40 : decode cX9_tool 40 = .ok (.bipush 20, 2) := by decide +kernel
theorem dX9_tool_42 : decode cX9_tool 42 = .ok (.if_icmp .ne 6, 3) := by decide +kernel
theorem dX9_tool_45 : decode cX9_tool 45 = .ok (.ldc 73, 2) := by decide +kernel
theorem dX9_tool_47 : decode cX9_tool 47 = .ok (.ireturn, 1) := by decide +kernel
theorem dX9_tool_48 : decode cX9_tool 48 = .ok (.aload_n 0, 1) := by decide +kernel
theorem dX9_tool_49 : decode cX9_tool 49 = .ok (.invokevirtual 67, 3) := by decide +kernel
theorem dX9_tool_52 : decode cX9_tool 52 = .ok (.aload_n 0, 1) := by decide +kernel
theorem dX9_tool_53 : decode cX9_tool 53 = .ok (.getfield 7, 3) := by decide +kernel
theorem dX9_tool_56 : decode cX9_tool 56 = .ok (.bipush 9, 2) := by decide +kernel
theorem dX9_tool_58 : decode cX9_tool 58 = .ok (.iaload, 1) := by decide +kernel
theorem dX9_tool_59 : decode cX9_tool 59 = .ok (.istore 4, 2) := by decide +kernel
theorem dX9_tool_61 : decode cX9_tool 61 = .ok (.aload_n 0, 1) := by decide +kernel
theorem dX9_tool_62 : decode cX9_tool 62 = .ok (.iload 4, 2) := by decide +kernel
theorem dX9_tool_64 : decode cX9_tool 64 = .ok (.iconst 0, 1) := by decide +kernel
theorem dX9_tool_65 : decode cX9_tool 65 = .ok (.iload_n 1, 1) := by decide +kernel
theorem dX9_tool_66 : decode cX9_tool 66 = .ok (.invokevirtual 123, 3) := by decide +kernel
theorem dX9_tool_69 : decode cX9_tool 69 = .ok (.aload_n 0, 1) := by decide +kernel
theorem dX9_tool_70 : decode cX9_tool 70 = .ok (.iload 4, 2) := by decide +kernel
theorem dX9_tool_72 : decode cX9_tool 72 = .ok (.iconst 1, 1) := by decide +kernel
theorem dX9_tool_73 : decode cX9_tool 73 = .ok (.iload_n 2, 1) := by decide +kernel
theorem dX9_tool_74 : decode cX9_tool 74 = .ok (.invokevirtual 123, 3) := by decide +kernel
theorem dX9_tool_77 : decode cX9_tool 77 = .ok (.aload_n 0, 1) := by decide +kernel
theorem dX9_tool_78 : decode cX9_tool 78 = .ok (.iload 4, 2) := by decide +kernel
theorem dX9_tool_80 : decode cX9_tool 80 = .ok (.iconst 2, 1) := by decide +kernel
theorem dX9_tool_81 : decode cX9_tool 81 = .ok (.iload_n 3, 1) := by decide +kernel
theorem dX9_tool_82 : decode cX9_tool 82 = .ok (.invokevirtual 123, 3) := by decide +kernel
theorem dX9_tool_85 : decode cX9_tool 85 = .ok (.aload_n 0, 1) := by decide +kernel
theorem dX9_tool_86 : decode cX9_tool 86 = .ok (.iload 4, 2) := by decide +kernel
theorem dX9_tool_88 : decode cX9_tool 88 = .ok (.bipush 6, 2) := by decide +kernel
theorem dX9_tool_90 : decode cX9_tool 90 = .ok (.fconst 1, 1) := by decide +kernel
theorem dX9_tool_91 : decode cX9_tool 91 = .ok (.invokestatic 126, 3) := by decide +kernel
theorem dX9_tool_94 : decode cX9_tool 94 = .ok (.invokevirtual 123, 3) := by decide +kernel
theorem dX9_tool_97 : decode cX9_tool 97 = .ok (.aload_n 0, 1) := by decide +kernel
theorem dX9_tool_98 : decode cX9_tool 98 = .ok (.iload 4, 2) := by decide +kernel
theorem dX9_tool_100 : decode cX9_tool 100 = .ok (.bipush 8, 2) := by decide +kernel
theorem dX9_tool_102 : decode cX9_tool 102 = .ok (.iconst (-1), 1) := by decide +kernel
theorem dX9_tool_103 : decode cX9_tool 103 = .ok (.invokevirtual 123, 3) := by decide +kernel
theorem dX9_tool_106 : decode cX9_tool 106 = .ok (.aload_n 0, 1) := by decide +kernel
theorem dX9_tool_107 : decode cX9_tool 107 = .ok (.getfield 7, 3) := by decide +kernel
theorem dX9_tool_110 : decode cX9_tool 110 = .ok (.bipush 9, 2) := by decide +kernel
theorem dX9_tool_112 : decode cX9_tool 112 = .ok (.dup2, 1) := by decide +kernel
theorem dX9_tool_113 : decode cX9_tool 113 = .ok (.iaload, 1) := by decide +kernel
theorem dX9_tool_114 : decode cX9_tool 114 = .ok (.iconst 1, 1) := by decide +kernel
theorem dX9_tool_115 : decode cX9_tool 115 = .ok (.iadd, 1) := by decide +kernel
theorem dX9_tool_116 : decode cX9_tool 116 = .ok (.iastore, 1) := by decide +kernel
theorem dX9_tool_117 : decode cX9_tool 117 = .ok (.aload_n 0, 1) := by decide +kernel
theorem dX9_tool_118 : decode cX9_tool 118 = .ok (.iload 4, 2) := by decide +kernel
theorem dX9_tool_120 : decode cX9_tool 120 = .ok (.invokevirtual 70, 3) := by decide +kernel
theorem dX9_tool_123 : decode cX9_tool 123 = .ok (.ireturn, 1) := by decide +kernel
theorem dX9_onHook_0 : decode cX9_onHook 0 = .ok (.iconst 0, 1) := by decide +kernel
theorem dX9_onHook_1 : decode cX9_onHook 1 = .ok (.istore_n 2, 1) := by decide +kernel
theorem dX9_onHook_2 : decode cX9_onHook 2 = .ok (.iload_n 2, 1) := by decide +kernel
theorem dX9_onHook_3 : decode cX9_onHook 3 = .ok (.aload_n 0, 1) := by decide +kernel
theorem dX9_onHook_4 : decode cX9_onHook 4 = .ok (.getfield 7, 3) := by decide +kernel
theorem dX9_onHook_7 : decode cX9_onHook 7 = .ok (.bipush 9, 2) := by decide +kernel
theorem dX9_onHook_9 : decode cX9_onHook 9 = .ok (.iaload, 1) := by decide +kernel
theorem dX9_onHook_10 : decode cX9_onHook 10 = .ok (.if_icmp .ge 22, 3) := by decide +kernel
theorem dX9_onHook_13 : decode cX9_onHook 13 = .ok (.aload_n 0, 1) := by decide +kernel
theorem dX9_onHook_14 : decode cX9_onHook 14 = .ok (.iload_n 2, 1) := by decide +kernel
theorem dX9_onHook_15 : decode cX9_onHook 15 = .ok (.bipush 8, 2) := by decide +kernel
theorem dX9_onHook_17 : decode cX9_onHook 17 = .ok (.invokevirtual 79, 3) := by decide +kernel
theorem dX9_onHook_20 : decode cX9_onHook 20 = .ok (.iload_n 1, 1) := by decide +kernel
theorem dX9_onHook_21 : decode cX9_onHook 21 = .ok (.if_icmp .ne 5, 3) := by decide +kernel
theorem dX9_onHook_24 : decode cX9_onHook 24 = .ok (.iload_n 2, 1) := by decide +kernel
theorem dX9_onHook_25 : decode cX9_onHook 25 = .ok (.ireturn, 1) := by decide +kernel
theorem dX9_onHook_26 : decode cX9_onHook 26 = .ok (.iinc 2 1, 3) := by decide +kernel
theorem dX9_onHook_29 : decode cX9_onHook 29 = .ok (.goto (-27), 3) := by decide +kernel
theorem dX9_onHook_32 : decode cX9_onHook 32 = .ok (.ldc 33, 2) := by decide +kernel
theorem dX9_onHook_34 : decode cX9_onHook 34 = .ok (.ireturn, 1) := by decide +kernel
theorem dX9_onWall_0 : decode cX9_onWall 0 = .ok (.iconst 0, 1) := by decide +kernel
theorem dX9_onWall_1 : decode cX9_onWall 1 = .ok (.istore_n 2, 1) := by decide +kernel
theorem dX9_onWall_2 : decode cX9_onWall 2 = .ok (.iconst 0, 1) := by decide +kernel
theorem dX9_onWall_3 : decode cX9_onWall 3 = .ok (.istore_n 3, 1) := by decide +kernel
theorem dX9_onWall_4 : decode cX9_onWall 4 = .ok (.iload_n 3, 1) := by decide +kernel
theorem dX9_onWall_5 : decode cX9_onWall 5 = .ok (.iconst 4, 1) := by decide +kernel
theorem dX9_onWall_6 : decode cX9_onWall 6 = .ok (.if_icmp .ge 30, 3) := by decide +kernel
theorem dX9_onWall_9 : decode cX9_onWall 9 = .ok (.iload_n 2, 1) := by decide +kernel
theorem dX9_onWall_10 : decode cX9_onWall 10 = .ok (.aload_n 0, 1) := by decide +kernel
theorem dX9_onWall_11 : decode cX9_onWall 11 = .ok (.bipush 10, 2) := by decide +kernel
theorem dX9_onWall_13 : decode cX9_onWall 13 = .ok (.iload_n 1, 1) := by decide +kernel
theorem dX9_onWall_14 : decode cX9_onWall 14 = .ok (.imul, 1) := by decide +kernel
theorem dX9_onWall_15 : decode cX9_onWall 15 = .ok (.iload_n 3, 1) := by decide +kernel
theorem dX9_onWall_16 : decode cX9_onWall 16 = .ok (.iadd, 1) := by decide +kernel
theorem dX9_onWall_17 : decode cX9_onWall 17 = .ok (.invokevirtual 129, 3) := by decide +kernel
theorem dX9_onWall_20 : decode cX9_onWall 20 = .ok (.ifCond .lt 7, 3) := by decide +kernel
theorem dX9_onWall_23 : decode cX9_onWall 23 = .ok (.iconst 1, 1) := by decide +kernel
theorem dX9_onWall_24 : decode cX9_onWall 24 = .ok (.goto 4, 3) := by decide +kernel
theorem dX9_onWall_27 : decode cX9_onWall 27 = .ok (.iconst 0, 1) := by decide +kernel
theorem dX9_onWall_28 : decode cX9_onWall 28 = .ok (.iadd, 1) := by decide +kernel
theorem dX9_onWall_29 : decode cX9_onWall 29 = .ok (.istore_n 2, 1) := by decide +kernel
theorem dX9_onWall_30 : decode cX9_onWall 30 = .ok (.iinc 3 1, 3) := by decide +kernel
theorem dX9_onWall_33 : decode cX9_onWall 33 = .ok (.goto (-29), 3) := by decide +kernel
theorem dX9_onWall_36 : decode cX9_onWall 36 = .ok (.iload_n 2, 1) := by decide +kernel
theorem dX9_onWall_37 : decode cX9_onWall 37 = .ok (.ireturn, 1) := by decide +kernel
theorem dX9_hang_0 : decode cX9_hang 0 = .ok (.aload_n 0, 1) := by decide +kernel
theorem dX9_hang_1 : decode cX9_hang 1 = .ok (.iload_n 1, 1) := by decide +kernel
theorem dX9_hang_2 : decode cX9_hang 2 = .ok (.invokevirtual 132, 3) := by decide +kernel
theorem dX9_hang_5 : decode cX9_hang 5 = .ok (.ifCond .eq 21, 3) := by decide +kernel
theorem dX9_hang_8 : decode cX9_hang 8 = .ok (.iload_n 2, 1) := by decide +kernel
theorem dX9_hang_9 : decode cX9_hang 9 = .ok (.iconst 0, 1) := by decide +kernel
theorem dX9_hang_10 : decode cX9_hang 10 = .ok (.iconst 2, 1) := by decide +kernel
theorem dX9_hang_11 : decode cX9_hang 11 = .ok (.invokestatic 38, 3) := by decide +kernel
theorem dX9_hang_14 : decode cX9_hang 14 = .ok (.ifCond .eq 12, 3) := by decide +kernel
theorem dX9_hang_17 : decode cX9_hang 17 = .ok (.iload_n 3, 1) := by decide +kernel
theorem dX9_hang_18 : decode cX9_hang 18 = .ok (.iconst 0, 1) := by decide +kernel
theorem dX9_hang_19 : decode cX9_hang 19 = .ok (.iconst 3, 1) := by decide +kernel
theorem dX9_hang_20 : decode cX9_hang 20 = .ok (.invokestatic 38, 3) := by decide +kernel
theorem dX9_hang_23 : decode cX9_hang 23 = .ok (.ifCond .ne 6, 3) := by decide +kernel
theorem dX9_hang_26 : decode cX9_hang 26 = .ok (.ldc 32, 2) := by decide +kernel
theorem dX9_hang_28 : decode cX9_hang 28 = .ok (.ireturn, 1) := by decide +kernel
theorem dX9_hang_29 : decode cX9_hang 29 = .ok (.aload_n 0, 1) := by decide +kernel
theorem dX9_hang_30 : decode cX9_hang 30 = .ok (.iload_n 1, 1) := by decide +kernel
theorem dX9_hang_31 : decode cX9_hang 31 = .ok (.iconst 3, 1) := by decide +kernel
theorem dX9_hang_32 : decode cX9_hang 32 = .ok (.invokevirtual 79, 3) := by decide +kernel
theorem dX9_hang_35 : decode cX9_hang 35 = .ok (.ifCond .ne 41, 3) := by decide +kernel
theorem dX9_hang_38 : decode cX9_hang 38 = .ok (.aload_n 0, 1) := by decide +kernel
theorem dX9_hang_39 : decode cX9_hang 39 = .ok (.iload_n 1, 1) := by decide +kernel
theorem dX9_hang_40 : decode cX9_hang 40 = .ok (.bipush 8, 2) := by decide +kernel
theorem dX9_hang_42 : decode cX9_hang 42 = .ok (.invokevirtual 79, 3) := by decide +kernel
theorem dX9_hang_45 : decode cX9_hang 45 = .ok (.ifCond .ge 31, 3) := by decide +kernel
theorem dX9_hang_48 : decode cX9_hang 48 = .ok (.aload_n 0, 1) := by decide +kernel
theorem dX9_hang_49 : decode cX9_hang 49 = .ok (.bipush 10, 2) := by decide +kernel
theorem dX9_hang_51 : decode cX9_hang 51 = .ok (.iload_n 2, 1) := by decide +kernel
theorem dX9_hang_52 : decode cX9_hang 52 = .ok (.imul, 1) := by decide +kernel
theorem dX9_hang_53 : decode cX9_hang 53 = .ok (.iload_n 3, 1) := by decide +kernel
theorem dX9_hang_54 : decode cX9_hang 54 = .ok (.iadd, 1) := by decide +kernel
theorem dX9_hang_55 : decode cX9_hang 55 = .ok (.invokevirtual 129, 3) := by decide +kernel
theorem dX9_hang_58 : decode cX9_hang 58 = .ok (.ifCond .ge 18, 3) := by decide +kernel
theorem dX9_hang_61 : decode cX9_hang 61 = .ok (.iload_n 2, 1) := by decide +kernel
theorem dX9_hang_62 : decode cX9_hang 62 = .ok (.iconst 2, 1) := by decide +kernel
theorem dX9_hang_63 : decode cX9_hang 63 = .ok (.if_icmp .ge 16, 3) := by decide +kernel
theorem dX9_hang_66 : decode cX9_hang 66 = .ok (.aload_n 0, 1) := by decide +kernel
theorem dX9_hang_67 : decode cX9_hang 67 = .ok (.iload_n 1, 1) := by decide +kernel
theorem dX9_hang_68 : decode cX9_hang 68 = .ok (.iconst 0, 1) := by decide +kernel
theorem dX9_hang_69 : decode cX9_hang 69 = .ok (.invokevirtual 79, 3) := by decide +kernel
theorem dX9_hang_72 : decode cX9_hang 72 = .ok (.iload_n 2, 1) := by decide +kernel
theorem dX9_hang_73 : decode cX9_hang 73 = .ok (.if_icmp .eq 6, 3) := by decide +kernel
theorem dX9_hang_76 : decode cX9_hang 76 = .ok (.ldc 78, 2) := by decide +kernel
theorem dX9_hang_78 : decode cX9_hang 78 = .ok (.ireturn, 1) := by decide +kernel
theorem dX9_hang_79 : decode cX9_hang 79 = .ok (.aload_n 0, 1) := by decide +kernel
theorem dX9_hang_80 : decode cX9_hang 80 = .ok (.invokevirtual 67, 3) := by decide +kernel
theorem dX9_hang_83 : decode cX9_hang 83 = .ok (.aload_n 0, 1) := by decide +kernel
theorem dX9_hang_84 : decode cX9_hang 84 = .ok (.iload_n 1, 1) := by decide +kernel
theorem dX9_hang_85 : decode cX9_hang 85 = .ok (.bipush 8, 2) := by decide +kernel
theorem dX9_hang_87 : decode cX9_hang 87 = .ok (.bipush 10, 2) := by decide +kernel
theorem dX9_hang_89 : decode cX9_hang 89 = .ok (.iload_n 2, 1) := by decide +kernel
theorem dX9_hang_90 : decode cX9_hang 90 = .ok (.imul, 1) := by decide +kernel
theorem dX9_hang_91 : decode cX9_hang 91 = .ok (.iload_n 3, 1) := by decide +kernel
theorem dX9_hang_92 : decode cX9_hang 92 = .ok (.iadd, 1) := by decide +kernel
theorem dX9_hang_93 : decode cX9_hang 93 = .ok (.invokevirtual 123, 3) := by decide +kernel
theorem dX9_hang_96 : decode cX9_hang 96 = .ok (.aload_n 0, 1) := by decide +kernel
theorem dX9_hang_97 : decode cX9_hang 97 = .ok (.aload_n 0, 1) := by decide +kernel
theorem dX9_hang_98 : decode cX9_hang 98 = .ok (.iload_n 2, 1) := by decide +kernel
theorem dX9_hang_99 : decode cX9_hang 99 = .ok (.invokevirtual 135, 3) := by decide +kernel
theorem dX9_hang_102 : decode cX9_hang 102 = .ok (.invokevirtual 70, 3) := by decide +kernel
theorem dX9_hang_105 : decode cX9_hang 105 = .ok (.ireturn, 1) := by decide +kernel
theorem dX9_noLoan_0 : decode cX9_noLoan 0 = .ok (.aload_n 0, 1) := by decide +kernel
theorem dX9_noLoan_1 : decode cX9_noLoan 1 = .ok (.iload_n 1, 1) := by decide +kernel
theorem dX9_noLoan_2 : decode cX9_noLoan 2 = .ok (.invokevirtual 132, 3) := by decide +kernel
theorem dX9_noLoan_5 : decode cX9_noLoan 5 = .ok (.ifCond .eq 11, 3) := by decide +kernel
theorem dX9_noLoan_8 : decode cX9_noLoan 8 = .ok (.aload_n 0, 1) := by decide +kernel
theorem dX9_noLoan_9 : decode cX9_noLoan 9 = .ok (.iload_n 2, 1) := by decide +kernel
theorem dX9_noLoan_10 : decode cX9_noLoan 10 = .ok (.invokevirtual 74, 3) := by decide +kernel
theorem dX9_noLoan_13 : decode cX9_noLoan 13 = .ok (.ifCond .ne 5, 3) := by decide +kernel
theorem dX9_noLoan_16 : decode cX9_noLoan 16 = .ok (.iconst 2, 1) := by decide +kernel
theorem dX9_noLoan_17 : decode cX9_noLoan 17 = .ok (.ireturn, 1) := by decide +kernel
theorem dX9_noLoan_18 : decode cX9_noLoan 18 = .ok (.aload_n 0, 1) := by decide +kernel
theorem dX9_noLoan_19 : decode cX9_noLoan 19 = .ok (.iload_n 1, 1) := by decide +kernel
theorem dX9_noLoan_20 : decode cX9_noLoan 20 = .ok (.iconst 3, 1) := by decide +kernel
theorem dX9_noLoan_21 : decode cX9_noLoan 21 = .ok (.invokevirtual 79, 3) := by decide +kernel
theorem dX9_noLoan_24 : decode cX9_noLoan 24 = .ok (.ifCond .ne 30, 3) := by decide +kernel
theorem dX9_noLoan_27 : decode cX9_noLoan 27 = .ok (.aload_n 0, 1) := by decide +kernel
theorem dX9_noLoan_28 : decode cX9_noLoan 28 = .ok (.iload_n 2, 1) := by decide +kernel
theorem dX9_noLoan_29 : decode cX9_noLoan 29 = .ok (.iconst 0, 1) := by decide +kernel
theorem dX9_noLoan_30 : decode cX9_noLoan 30 = .ok (.invokevirtual 46, 3) := by decide +kernel
theorem dX9_noLoan_33 : decode cX9_noLoan 33 = .ok (.ifCond .ne 21, 3) := by decide +kernel
theorem dX9_noLoan_36 : decode cX9_noLoan 36 = .ok (.aload_n 0, 1) := by decide +kernel
theorem dX9_noLoan_37 : decode cX9_noLoan 37 = .ok (.iload_n 2, 1) := by decide +kernel
theorem dX9_noLoan_38 : decode cX9_noLoan 38 = .ok (.invokevirtual 92, 3) := by decide +kernel
theorem dX9_noLoan_41 : decode cX9_noLoan 41 = .ok (.ifCond .gt 13, 3) := by decide +kernel
theorem dX9_noLoan_44 : decode cX9_noLoan 44 = .ok (.aload_n 0, 1) := by decide +kernel
theorem dX9_noLoan_45 : decode cX9_noLoan 45 = .ok (.iload_n 2, 1) := by decide +kernel
theorem dX9_noLoan_46 : decode cX9_noLoan 46 = .ok (.iconst 1, 1) := by decide +kernel
theorem dX9_noLoan_47 : decode cX9_noLoan 47 = .ok (.invokevirtual 88, 3) := by decide +kernel
theorem dX9_noLoan_50 : decode cX9_noLoan 50 = .ok (.iconst 2, 1) := by decide +kernel
theorem dX9_noLoan_51 : decode cX9_noLoan 51 = .ok (.if_icmp .le 7, 3) := by decide +kernel
theorem dX9_noLoan_54 : decode cX9_noLoan 54 = .ok (.iconst 3, 1) := by decide +kernel
theorem dX9_noLoan_55 : decode cX9_noLoan 55 = .ok (.goto 4, 3) := by decide +kernel
theorem dX9_noLoan_58 : decode cX9_noLoan 58 = .ok (.iconst 0, 1) := by decide +kernel
theorem dX9_noLoan_59 : decode cX9_noLoan 59 = .ok (.ireturn, 1) := by decide +kernel
theorem dX9_goesOut_0 : decode cX9_goesOut 0 = .ok (.aload_n 0, 1) := by decide +kernel
theorem dX9_goesOut_1 : decode cX9_goesOut 1 = .ok (.iload_n 1, 1) := by decide +kernel
theorem dX9_goesOut_2 : decode cX9_goesOut 2 = .ok (.iconst 3, 1) := by decide +kernel
theorem dX9_goesOut_3 : decode cX9_goesOut 3 = .ok (.iload_n 2, 1) := by decide +kernel
theorem dX9_goesOut_4 : decode cX9_goesOut 4 = .ok (.invokevirtual 123, 3) := by decide +kernel
theorem dX9_goesOut_7 : decode cX9_goesOut 7 = .ok (.aload_n 0, 1) := by decide +kernel
theorem dX9_goesOut_8 : decode cX9_goesOut 8 = .ok (.iload_n 1, 1) := by decide +kernel
theorem dX9_goesOut_9 : decode cX9_goesOut 9 = .ok (.iconst 4, 1) := by decide +kernel
theorem dX9_goesOut_10 : decode cX9_goesOut 10 = .ok (.iload_n 3, 1) := by decide +kernel
theorem dX9_goesOut_11 : decode cX9_goesOut 11 = .ok (.invokevirtual 123, 3) := by decide +kernel
theorem dX9_goesOut_14 : decode cX9_goesOut 14 = .ok (.aload_n 0, 1) := by decide +kernel
theorem dX9_goesOut_15 : decode cX9_goesOut 15 = .ok (.iload_n 1, 1) := by decide +kernel
theorem dX9_goesOut_16 : decode cX9_goesOut 16 = .ok (.iconst 5, 1) := by decide +kernel
theorem dX9_goesOut_17 : decode cX9_goesOut 17 = .ok (.iload 4, 2) := by decide +kernel
theorem dX9_goesOut_19 : decode cX9_goesOut 19 = .ok (.invokevirtual 123, 3) := by decide +kernel
theorem dX9_goesOut_22 : decode cX9_goesOut 22 = .ok (.aload_n 0, 1) := by decide +kernel
theorem dX9_goesOut_23 : decode cX9_goesOut 23 = .ok (.iload_n 1, 1) := by decide +kernel
theorem dX9_goesOut_24 : decode cX9_goesOut 24 = .ok (.bipush 8, 2) := by decide +kernel
theorem dX9_goesOut_26 : decode cX9_goesOut 26 = .ok (.iconst (-1), 1) := by decide +kernel
theorem dX9_goesOut_27 : decode cX9_goesOut 27 = .ok (.invokevirtual 123, 3) := by decide +kernel
theorem dX9_goesOut_30 : decode cX9_goesOut 30 = .ok (.aload_n 0, 1) := by decide +kernel
theorem dX9_goesOut_31 : decode cX9_goesOut 31 = .ok (.iload_n 1, 1) := by decide +kernel
theorem dX9_goesOut_32 : decode cX9_goesOut 32 = .ok (.bipush 9, 2) := by decide +kernel
theorem dX9_goesOut_34 : decode cX9_goesOut 34 = .ok (.aload_n 0, 1) := by decide +kernel
theorem dX9_goesOut_35 : decode cX9_goesOut 35 = .ok (.getfield 7, 3) := by decide +kernel
theorem dX9_goesOut_38 : decode cX9_goesOut 38 = .ok (.bipush 7, 2) := by decide +kernel
theorem dX9_goesOut_40 : decode cX9_goesOut 40 = .ok (.iaload, 1) := by decide +kernel
theorem dX9_goesOut_41 : decode cX9_goesOut 41 = .ok (.invokevirtual 123, 3) := by decide +kernel
theorem dX9_goesOut_44 : decode cX9_goesOut 44 = .ok (.aload_n 0, 1) := by decide +kernel
theorem dX9_goesOut_45 : decode cX9_goesOut 45 = .ok (.iload_n 1, 1) := by decide +kernel
theorem dX9_goesOut_46 : decode cX9_goesOut 46 = .ok (.bipush 7, 2) := by decide +kernel
theorem dX9_goesOut_48 : decode cX9_goesOut 48 = .ok (.aload_n 0, 1) := by decide +kernel
theorem dX9_goesOut_49 : decode cX9_goesOut 49 = .ok (.iload_n 1, 1) := by decide +kernel
theorem dX9_goesOut_50 : decode cX9_goesOut 50 = .ok (.bipush 7, 2) := by decide +kernel
theorem dX9_goesOut_52 : decode cX9_goesOut 52 = .ok (.invokevirtual 79, 3) := by decide +kernel
theorem dX9_goesOut_55 : decode cX9_goesOut 55 = .ok (.iconst 1, 1) := by decide +kernel
theorem dX9_goesOut_56 : decode cX9_goesOut 56 = .ok (.iadd, 1) := by decide +kernel
theorem dX9_goesOut_57 : decode cX9_goesOut 57 = .ok (.invokevirtual 123, 3) := by decide +kernel
theorem dX9_goesOut_60 : decode cX9_goesOut 60 = .ok (.return_, 1) := by decide +kernel
theorem dX9_borrows_0 : decode cX9_borrows 0 = .ok (.aload_n 0, 1) := by decide +kernel
theorem dX9_borrows_1 : decode cX9_borrows 1 = .ok (.iload_n 1, 1) := by decide +kernel
theorem dX9_borrows_2 : decode cX9_borrows 2 = .ok (.iconst 1, 1) := by decide +kernel
theorem dX9_borrows_3 : decode cX9_borrows 3 = .ok (.iload_n 2, 1) := by decide +kernel
theorem dX9_borrows_4 : decode cX9_borrows 4 = .ok (.aload_n 0, 1) := by decide +kernel
theorem dX9_borrows_5 : decode cX9_borrows 5 = .ok (.getfield 7, 3) := by decide +kernel
theorem dX9_borrows_8 : decode cX9_borrows 8 = .ok (.bipush 7, 2) := by decide +kernel
theorem dX9_borrows_10 : decode cX9_borrows 10 = .ok (.iaload, 1) := by decide +kernel
theorem dX9_borrows_11 : decode cX9_borrows 11 = .ok (.aload_n 0, 1) := by decide +kernel
theorem dX9_borrows_12 : decode cX9_borrows 12 = .ok (.getfield 7, 3) := by decide +kernel
theorem dX9_borrows_15 : decode cX9_borrows 15 = .ok (.iconst 1, 1) := by decide +kernel
theorem dX9_borrows_16 : decode cX9_borrows 16 = .ok (.iaload, 1) := by decide +kernel
theorem dX9_borrows_17 : decode cX9_borrows 17 = .ok (.iadd, 1) := by decide +kernel
theorem dX9_borrows_18 : decode cX9_borrows 18 = .ok (.invokevirtual 138, 3) := by decide +kernel
theorem dX9_borrows_21 : decode cX9_borrows 21 = .ok (.return_, 1) := by decide +kernel
theorem dX9_borrow_0 : decode cX9_borrow 0 = .ok (.aload_n 0, 1) := by decide +kernel
theorem dX9_borrow_1 : decode cX9_borrow 1 = .ok (.iload_n 1, 1) := by decide +kernel
theorem dX9_borrow_2 : decode cX9_borrow 2 = .ok (.iload_n 2, 1) := by decide +kernel
theorem dX9_borrow_3 : decode cX9_borrow 3 = .ok (.invokevirtual 142, 3) := by decide +kernel
theorem dX9_borrow_6 : decode cX9_borrow 6 = .ok (.istore_n 3, 1) := by decide +kernel
theorem dX9_borrow_7 : decode cX9_borrow 7 = .ok (.iload_n 3, 1) := by decide +kernel
theorem dX9_borrow_8 : decode cX9_borrow 8 = .ok (.ifCond .eq 16, 3) := by decide +kernel
theorem dX9_borrow_11 : decode cX9_borrow 11 = .ok (.iload_n 3, 1) := by decide +kernel
theorem dX9_borrow_12 : decode cX9_borrow 12 = .ok (.iconst 2, 1) := by decide +kernel
theorem dX9_borrow_13 : decode cX9_borrow 13 = .ok (.if_icmp .ne 8, 3) := by decide +kernel
theorem dX9_borrow_16 : decode cX9_borrow 16 = .ok (.ldc 32, 2) := by decide +kernel
theorem dX9_borrow_18 : decode cX9_borrow 18 = .ok (.goto 5, 3) := by decide +kernel
theorem dX9_borrow_21 : decode cX9_borrow 21 = .ok (.ldc 78, 2) := by decide +kernel
theorem dX9_borrow_23 : decode cX9_borrow 23 = .ok (.ireturn, 1) := by decide +kernel
theorem dX9_borrow_24 : decode cX9_borrow 24 = .ok (.aload_n 0, 1) := by decide +kernel
theorem dX9_borrow_25 : decode cX9_borrow 25 = .ok (.invokevirtual 67, 3) := by decide +kernel
theorem dX9_borrow_28 : decode cX9_borrow 28 = .ok (.aload_n 0, 1) := by decide +kernel
theorem dX9_borrow_29 : decode cX9_borrow 29 = .ok (.iload_n 1, 1) := by decide +kernel
theorem dX9_borrow_30 : decode cX9_borrow 30 = .ok (.iload_n 2, 1) := by decide +kernel
theorem dX9_borrow_31 : decode cX9_borrow 31 = .ok (.invokevirtual 145, 3) := by decide +kernel
theorem dX9_borrow_34 : decode cX9_borrow 34 = .ok (.aload_n 0, 1) := by decide +kernel
theorem dX9_borrow_35 : decode cX9_borrow 35 = .ok (.aload_n 0, 1) := by decide +kernel
theorem dX9_borrow_36 : decode cX9_borrow 36 = .ok (.iload_n 1, 1) := by decide +kernel
theorem dX9_borrow_37 : decode cX9_borrow 37 = .ok (.iconst 5, 1) := by decide +kernel
theorem dX9_borrow_38 : decode cX9_borrow 38 = .ok (.invokevirtual 79, 3) := by decide +kernel
theorem dX9_borrow_41 : decode cX9_borrow 41 = .ok (.invokevirtual 70, 3) := by decide +kernel
theorem dX9_borrow_44 : decode cX9_borrow 44 = .ok (.ireturn, 1) := by decide +kernel
theorem dX9_noReturn_0 : decode cX9_noReturn 0 = .ok (.aload_n 0, 1) := by decide +kernel
theorem dX9_noReturn_1 : decode cX9_noReturn 1 = .ok (.iload_n 1, 1) := by decide +kernel
theorem dX9_noReturn_2 : decode cX9_noReturn 2 = .ok (.invokevirtual 132, 3) := by decide +kernel
theorem dX9_noReturn_5 : decode cX9_noReturn 5 = .ok (.ifCond .ne 7, 3) := by decide +kernel
theorem dX9_noReturn_8 : decode cX9_noReturn 8 = .ok (.iconst 2, 1) := by decide +kernel
theorem dX9_noReturn_9 : decode cX9_noReturn 9 = .ok (.goto 18, 3) := by decide +kernel
theorem dX9_noReturn_12 : decode cX9_noReturn 12 = .ok (.aload_n 0, 1) := by decide +kernel
theorem dX9_noReturn_13 : decode cX9_noReturn 13 = .ok (.iload_n 1, 1) := by decide +kernel
theorem dX9_noReturn_14 : decode cX9_noReturn 14 = .ok (.iconst 3, 1) := by decide +kernel
theorem dX9_noReturn_15 : decode cX9_noReturn 15 = .ok (.invokevirtual 79, 3) := by decide +kernel
theorem dX9_noReturn_18 : decode cX9_noReturn 18 = .ok (.iconst 1, 1) := by decide +kernel
theorem dX9_noReturn_19 : decode cX9_noReturn 19 = .ok (.if_icmp .eq 7, 3) := by decide +kernel
theorem dX9_noReturn_22 : decode cX9_noReturn 22 = .ok (.iconst 3, 1) := by decide +kernel
theorem dX9_noReturn_23 : decode cX9_noReturn 23 = .ok (.goto 4, 3) := by decide +kernel
theorem dX9_noReturn_26 : decode cX9_noReturn 26 = .ok (.iconst 0, 1) := by decide +kernel
theorem dX9_noReturn_27 : decode cX9_noReturn 27 = .ok (.ireturn, 1) := by decide +kernel
theorem dX9_daysOut_0 : decode cX9_daysOut 0 = .ok (.aload_n 0, 1) := by decide +kernel
theorem dX9_daysOut_1 : decode cX9_daysOut 1 = .ok (.getfield 7, 3) := by decide +kernel
theorem dX9_daysOut_4 : decode cX9_daysOut 4 = .ok (.bipush 7, 2) := by decide +kernel
theorem dX9_daysOut_6 : decode cX9_daysOut 6 = .ok (.iaload, 1) := by decide +kernel
theorem dX9_daysOut_7 : decode cX9_daysOut 7 = .ok (.aload_n 0, 1) := by decide +kernel
theorem dX9_daysOut_8 : decode cX9_daysOut 8 = .ok (.iload_n 1, 1) := by decide +kernel
theorem dX9_daysOut_9 : decode cX9_daysOut 9 = .ok (.bipush 9, 2) := by decide +kernel
theorem dX9_daysOut_11 : decode cX9_daysOut 11 = .ok (.invokevirtual 79, 3) := by decide +kernel
theorem dX9_daysOut_14 : decode cX9_daysOut 14 = .ok (.if_icmp .le 21, 3) := by decide +kernel
theorem dX9_daysOut_17 : decode cX9_daysOut 17 = .ok (.aload_n 0, 1) := by decide +kernel
theorem dX9_daysOut_18 : decode cX9_daysOut 18 = .ok (.getfield 7, 3) := by decide +kernel
theorem dX9_daysOut_21 : decode cX9_daysOut 21 = .ok (.bipush 7, 2) := by decide +kernel
theorem dX9_daysOut_23 : decode cX9_daysOut 23 = .ok (.iaload, 1) := by decide +kernel
theorem dX9_daysOut_24 : decode cX9_daysOut 24 = .ok (.aload_n 0, 1) := by decide +kernel
theorem dX9_daysOut_25 : decode cX9_daysOut 25 = .ok (.iload_n 1, 1) := by decide +kernel
theorem dX9_daysOut_26 : decode cX9_daysOut 26 = .ok (.bipush 9, 2) := by decide +kernel
theorem dX9_daysOut_28 : decode cX9_daysOut 28 = .ok (.invokevirtual 79, 3) := by decide +kernel
theorem dX9_daysOut_31 : decode cX9_daysOut 31 = .ok (.isub, 1) := by decide +kernel
theorem dX9_daysOut_32 : decode cX9_daysOut 32 = .ok (.goto 4, 3) := by decide +kernel
theorem dX9_daysOut_35 : decode cX9_daysOut 35 = .ok (.iconst 1, 1) := by decide +kernel
theorem dX9_daysOut_36 : decode cX9_daysOut 36 = .ok (.ireturn, 1) := by decide +kernel
theorem dX9_returned_0 : decode cX9_returned 0 = .ok (.aload_n 0, 1) := by decide +kernel
theorem dX9_returned_1 : decode cX9_returned 1 = .ok (.getfield 7, 3) := by decide +kernel
theorem dX9_returned_4 : decode cX9_returned 4 = .ok (.bipush 7, 2) := by decide +kernel
theorem dX9_returned_6 : decode cX9_returned 6 = .ok (.iaload, 1) := by decide +kernel
theorem dX9_returned_7 : decode cX9_returned 7 = .ok (.aload_n 0, 1) := by decide +kernel
theorem dX9_returned_8 : decode cX9_returned 8 = .ok (.iload_n 1, 1) := by decide +kernel
theorem dX9_returned_9 : decode cX9_returned 9 = .ok (.iconst 5, 1) := by decide +kernel
theorem dX9_returned_10 : decode cX9_returned 10 = .ok (.invokevirtual 79, 3) := by decide +kernel
theorem dX9_returned_13 : decode cX9_returned 13 = .ok (.if_icmp .le 20, 3) := by decide +kernel
theorem dX9_returned_16 : decode cX9_returned 16 = .ok (.aload_n 0, 1) := by decide +kernel
theorem dX9_returned_17 : decode cX9_returned 17 = .ok (.getfield 7, 3) := by decide +kernel
theorem dX9_returned_20 : decode cX9_returned 20 = .ok (.bipush 7, 2) := by decide +kernel
theorem dX9_returned_22 : decode cX9_returned 22 = .ok (.iaload, 1) := by decide +kernel
theorem dX9_returned_23 : decode cX9_returned 23 = .ok (.aload_n 0, 1) := by decide +kernel
theorem dX9_returned_24 : decode cX9_returned 24 = .ok (.iload_n 1, 1) := by decide +kernel
theorem dX9_returned_25 : decode cX9_returned 25 = .ok (.iconst 5, 1) := by decide +kernel
theorem dX9_returned_26 : decode cX9_returned 26 = .ok (.invokevirtual 79, 3) := by decide +kernel
theorem dX9_returned_29 : decode cX9_returned 29 = .ok (.isub, 1) := by decide +kernel
theorem dX9_returned_30 : decode cX9_returned 30 = .ok (.goto 4, 3) := by decide +kernel
theorem dX9_returned_33 : decode cX9_returned 33 = .ok (.iconst 0, 1) := by decide +kernel
theorem dX9_returned_34 : decode cX9_returned 34 = .ok (.istore_n 2, 1) := by decide +kernel
theorem dX9_returned_35 : decode cX9_returned 35 = .ok (.aload_n 0, 1) := by decide +kernel
theorem dX9_returned_36 : decode cX9_returned 36 = .ok (.iload_n 1, 1) := by decide +kernel
theorem dX9_returned_37 : decode cX9_returned 37 = .ok (.bipush 6, 2) := by decide +kernel
theorem dX9_returned_39 : decode cX9_returned 39 = .ok (.aload_n 0, 1) := by decide +kernel
theorem dX9_returned_40 : decode cX9_returned 40 = .ok (.iload_n 1, 1) := by decide +kernel
theorem dX9_returned_41 : decode cX9_returned 41 = .ok (.aload_n 0, 1) := by decide +kernel
theorem dX9_returned_42 : decode cX9_returned 42 = .ok (.iload_n 1, 1) := by decide +kernel
theorem dX9_returned_43 : decode cX9_returned 43 = .ok (.invokevirtual 149, 3) := by decide +kernel
theorem dX9_returned_46 : decode cX9_returned 46 = .ok (.invokevirtual 152, 3) := by decide +kernel
theorem dX9_returned_49 : decode cX9_returned 49 = .ok (.invokestatic 126, 3) := by decide +kernel
theorem dX9_returned_52 : decode cX9_returned 52 = .ok (.invokevirtual 123, 3) := by decide +kernel
theorem dX9_returned_55 : decode cX9_returned 55 = .ok (.aload_n 0, 1) := by decide +kernel
theorem dX9_returned_56 : decode cX9_returned 56 = .ok (.iload_n 1, 1) := by decide +kernel
theorem dX9_returned_57 : decode cX9_returned 57 = .ok (.iconst 3, 1) := by decide +kernel
theorem dX9_returned_58 : decode cX9_returned 58 = .ok (.iconst 0, 1) := by decide +kernel
theorem dX9_returned_59 : decode cX9_returned 59 = .ok (.invokevirtual 123, 3) := by decide +kernel
theorem dX9_returned_62 : decode cX9_returned 62 = .ok (.aload_n 0, 1) := by decide +kernel
theorem dX9_returned_63 : decode cX9_returned 63 = .ok (.aload_n 0, 1) := by decide +kernel
theorem dX9_returned_64 : decode cX9_returned 64 = .ok (.iload_n 1, 1) := by decide +kernel
theorem dX9_returned_65 : decode cX9_returned 65 = .ok (.iconst 4, 1) := by decide +kernel
theorem dX9_returned_66 : decode cX9_returned 66 = .ok (.invokevirtual 79, 3) := by decide +kernel
theorem dX9_returned_69 : decode cX9_returned 69 = .ok (.iload_n 2, 1) := by decide +kernel
theorem dX9_returned_70 : decode cX9_returned 70 = .ok (.aload_n 0, 1) := by decide +kernel
theorem dX9_returned_71 : decode cX9_returned 71 = .ok (.getfield 7, 3) := by decide +kernel
theorem dX9_returned_74 : decode cX9_returned 74 = .ok (.iconst 2, 1) := by decide +kernel
theorem dX9_returned_75 : decode cX9_returned 75 = .ok (.iaload, 1) := by decide +kernel
theorem dX9_returned_76 : decode cX9_returned 76 = .ok (.imul, 1) := by decide +kernel
theorem dX9_returned_77 : decode cX9_returned 77 = .ok (.iconst 1, 1) := by decide +kernel
theorem dX9_returned_78 : decode cX9_returned 78 = .ok (.invokevirtual 61, 3) := by decide +kernel
theorem dX9_returned_81 : decode cX9_returned 81 = .ok (.iload_n 2, 1) := by decide +kernel
theorem dX9_returned_82 : decode cX9_returned 82 = .ok (.aload_n 0, 1) := by decide +kernel
theorem dX9_returned_83 : decode cX9_returned 83 = .ok (.getfield 7, 3) := by decide +kernel
theorem dX9_returned_86 : decode cX9_returned 86 = .ok (.iconst 2, 1) := by decide +kernel
theorem dX9_returned_87 : decode cX9_returned 87 = .ok (.iaload, 1) := by decide +kernel
theorem dX9_returned_88 : decode cX9_returned 88 = .ok (.imul, 1) := by decide +kernel
theorem dX9_returned_89 : decode cX9_returned 89 = .ok (.ireturn, 1) := by decide +kernel
theorem dX9_giveBack_0 : decode cX9_giveBack 0 = .ok (.aload_n 0, 1) := by decide +kernel
theorem dX9_giveBack_1 : decode cX9_giveBack 1 = .ok (.iload_n 1, 1) := by decide +kernel
theorem dX9_giveBack_2 : decode cX9_giveBack 2 = .ok (.invokevirtual 156, 3) := by decide +kernel
theorem dX9_giveBack_5 : decode cX9_giveBack 5 = .ok (.istore_n 2, 1) := by decide +kernel
theorem dX9_giveBack_6 : decode cX9_giveBack 6 = .ok (.iload_n 2, 1) := by decide +kernel
theorem dX9_giveBack_7 : decode cX9_giveBack 7 = .ok (.ifCond .eq 16, 3) := by decide +kernel
theorem dX9_giveBack_10 : decode cX9_giveBack 10 = .ok (.iload_n 2, 1) := by decide +kernel
theorem dX9_giveBack_11 : decode cX9_giveBack 11 = .ok (.iconst 2, 1) := by decide +kernel
theorem dX9_giveBack_12 : decode cX9_giveBack 12 = .ok (.if_icmp .ne 8, 3) := by decide +kernel
theorem dX9_giveBack_15 : decode cX9_giveBack 15 = .ok (.ldc 32, 2) := by decide +kernel
theorem dX9_giveBack_17 : decode cX9_giveBack 17 = .ok (.goto 5, 3) := by decide +kernel
theorem dX9_giveBack_20 : decode cX9_giveBack 20 = .ok (.ldc 78, 2) := by decide +kernel
theorem dX9_giveBack_22 : decode cX9_giveBack 22 = .ok (.ireturn, 1) := by decide +kernel
theorem dX9_giveBack_23 : decode cX9_giveBack 23 = .ok (.aload_n 0, 1) := by decide +kernel
theorem dX9_giveBack_24 : decode cX9_giveBack 24 = .ok (.invokevirtual 67, 3) := by decide +kernel
theorem dX9_giveBack_27 : decode cX9_giveBack 27 = .ok (.aload_n 0, 1) := by decide +kernel
theorem dX9_giveBack_28 : decode cX9_giveBack 28 = .ok (.aload_n 0, 1) := by decide +kernel
theorem dX9_giveBack_29 : decode cX9_giveBack 29 = .ok (.iload_n 1, 1) := by decide +kernel
theorem dX9_giveBack_30 : decode cX9_giveBack 30 = .ok (.invokevirtual 159, 3) := by decide +kernel
theorem dX9_giveBack_33 : decode cX9_giveBack 33 = .ok (.invokevirtual 70, 3) := by decide +kernel
theorem dX9_giveBack_36 : decode cX9_giveBack 36 = .ok (.ireturn, 1) := by decide +kernel
theorem dX9_isOut_0 : decode cX9_isOut 0 = .ok (.aload_n 0, 1) := by decide +kernel
theorem dX9_isOut_1 : decode cX9_isOut 1 = .ok (.iload_n 1, 1) := by decide +kernel
theorem dX9_isOut_2 : decode cX9_isOut 2 = .ok (.iconst 3, 1) := by decide +kernel
theorem dX9_isOut_3 : decode cX9_isOut 3 = .ok (.invokevirtual 79, 3) := by decide +kernel
theorem dX9_isOut_6 : decode cX9_isOut 6 = .ok (.iconst 1, 1) := by decide +kernel
theorem dX9_isOut_7 : decode cX9_isOut 7 = .ok (.iconst 3, 1) := by decide +kernel
theorem dX9_isOut_8 : decode cX9_isOut 8 = .ok (.invokestatic 38, 3) := by decide +kernel
theorem dX9_isOut_11 : decode cX9_isOut 11 = .ok (.ireturn, 1) := by decide +kernel
theorem dX9_toolOf_0 : decode cX9_toolOf 0 = .ok (.aload_n 0, 1) := by decide +kernel
theorem dX9_toolOf_1 : decode cX9_toolOf 1 = .ok (.iload_n 1, 1) := by decide +kernel
theorem dX9_toolOf_2 : decode cX9_toolOf 2 = .ok (.invokevirtual 132, 3) := by decide +kernel
theorem dX9_toolOf_5 : decode cX9_toolOf 5 = .ok (.ifCond .eq 13, 3) := by decide +kernel
theorem dX9_toolOf_8 : decode cX9_toolOf 8 = .ok (.iload_n 2, 1) := by decide +kernel
theorem dX9_toolOf_9 : decode cX9_toolOf 9 = .ok (.iconst 0, 1) := by decide +kernel
theorem dX9_toolOf_10 : decode cX9_toolOf 10 = .ok (.bipush 8, 2) := by decide +kernel
theorem dX9_toolOf_12 : decode cX9_toolOf 12 = .ok (.invokestatic 38, 3) := by decide +kernel
theorem dX9_toolOf_15 : decode cX9_toolOf 15 = .ok (.ifCond .ne 6, 3) := by decide +kernel
theorem dX9_toolOf_18 : decode cX9_toolOf 18 = .ok (.ldc 32, 2) := by decide +kernel
theorem dX9_toolOf_20 : decode cX9_toolOf 20 = .ok (.ireturn, 1) := by decide +kernel
theorem dX9_toolOf_21 : decode cX9_toolOf 21 = .ok (.iload_n 2, 1) := by decide +kernel
theorem dX9_toolOf_22 : decode cX9_toolOf 22 = .ok (.iconst 4, 1) := by decide +kernel
theorem dX9_toolOf_23 : decode cX9_toolOf 23 = .ok (.iconst 5, 1) := by decide +kernel
theorem dX9_toolOf_24 : decode cX9_toolOf 24 = .ok (.invokestatic 38, 3) := by decide +kernel
theorem dX9_toolOf_27 : decode cX9_toolOf 27 = .ok (.ifCond .eq 11, 3) := by decide +kernel
theorem dX9_toolOf_30 : decode cX9_toolOf 30 = .ok (.aload_n 0, 1) := by decide +kernel
theorem dX9_toolOf_31 : decode cX9_toolOf 31 = .ok (.iload_n 1, 1) := by decide +kernel
theorem dX9_toolOf_32 : decode cX9_toolOf 32 = .ok (.invokevirtual 162, 3) := by decide +kernel
theorem dX9_toolOf_35 : decode cX9_toolOf 35 = .ok (.ifCond .eq 19, 3) := by decide +kernel
theorem dX9_toolOf_38 : decode cX9_toolOf 38 = .ok (.iload_n 2, 1) := by decide +kernel
theorem dX9_toolOf_39 : decode cX9_toolOf 39 = .ok (.bipush 8, 2) := by decide +kernel
theorem dX9_toolOf_41 : decode cX9_toolOf 41 = .ok (.if_icmp .ne 16, 3) := by decide +kernel
theorem dX9_toolOf_44 : decode cX9_toolOf 44 = .ok (.aload_n 0, 1) := by decide +kernel
theorem dX9_toolOf_45 : decode cX9_toolOf 45 = .ok (.iload_n 1, 1) := by decide +kernel
theorem dX9_toolOf_46 : decode cX9_toolOf 46 = .ok (.bipush 8, 2) := by decide +kernel
theorem dX9_toolOf_48 : decode cX9_toolOf 48 = .ok (.invokevirtual 79, 3) := by decide +kernel
theorem dX9_toolOf_51 : decode cX9_toolOf 51 = .ok (.ifCond .ge 6, 3) := by decide +kernel
theorem dX9_toolOf_54 : decode cX9_toolOf 54 = .ok (.ldc 33, 2) := by decide +kernel
theorem dX9_toolOf_56 : decode cX9_toolOf 56 = .ok (.ireturn, 1) := by decide +kernel
theorem dX9_toolOf_57 : decode cX9_toolOf 57 = .ok (.iload_n 2, 1) := by decide +kernel
theorem dX9_toolOf_58 : decode cX9_toolOf 58 = .ok (.bipush 6, 2) := by decide +kernel
theorem dX9_toolOf_60 : decode cX9_toolOf 60 = .ok (.if_icmp .ne 19, 3) := by decide +kernel
theorem dX9_toolOf_63 : decode cX9_toolOf 63 = .ok (.aload_n 0, 1) := by decide +kernel
theorem dX9_toolOf_64 : decode cX9_toolOf 64 = .ok (.iload_n 1, 1) := by decide +kernel
theorem dX9_toolOf_65 : decode cX9_toolOf 65 = .ok (.bipush 6, 2) := by decide +kernel
theorem dX9_toolOf_67 : decode cX9_toolOf 67 = .ok (.invokevirtual 79, 3) := by decide +kernel
theorem dX9_toolOf_70 : decode cX9_toolOf 70 = .ok (.invokestatic 119, 3) := by decide +kernel
theorem dX9_toolOf_73 : decode cX9_toolOf 73 = .ok (.invokestatic 165, 3) := by decide +kernel
theorem dX9_toolOf_76 : decode cX9_toolOf 76 = .ok (.goto 9, 3) := by decide +kernel
theorem dX9_toolOf_79 : decode cX9_toolOf 79 = .ok (.aload_n 0, 1) := by decide +kernel
theorem dX9_toolOf_80 : decode cX9_toolOf 80 = .ok (.iload_n 1, 1) := by decide +kernel
theorem dX9_toolOf_81 : decode cX9_toolOf 81 = .ok (.iload_n 2, 1) := by decide +kernel
theorem dX9_toolOf_82 : decode cX9_toolOf 82 = .ok (.invokevirtual 79, 3) := by decide +kernel
theorem dX9_toolOf_85 : decode cX9_toolOf 85 = .ok (.ireturn, 1) := by decide +kernel
theorem dX9_bits_0 : decode cX9_bits 0 = .ok (.aload_n 0, 1) := by decide +kernel
theorem dX9_bits_1 : decode cX9_bits 1 = .ok (.iload_n 1, 1) := by decide +kernel
theorem dX9_bits_2 : decode cX9_bits 2 = .ok (.invokevirtual 132, 3) := by decide +kernel
theorem dX9_bits_5 : decode cX9_bits 5 = .ok (.ifCond .eq 13, 3) := by decide +kernel
theorem dX9_bits_8 : decode cX9_bits 8 = .ok (.aload_n 0, 1) := by decide +kernel
theorem dX9_bits_9 : decode cX9_bits 9 = .ok (.iload_n 1, 1) := by decide +kernel
theorem dX9_bits_10 : decode cX9_bits 10 = .ok (.bipush 6, 2) := by decide +kernel
theorem dX9_bits_12 : decode cX9_bits 12 = .ok (.invokevirtual 79, 3) := by decide +kernel
theorem dX9_bits_15 : decode cX9_bits 15 = .ok (.goto 5, 3) := by decide +kernel
theorem dX9_bits_18 : decode cX9_bits 18 = .ok (.ldc 32, 2) := by decide +kernel
theorem dX9_bits_20 : decode cX9_bits 20 = .ok (.ireturn, 1) := by decide +kernel
theorem dX9_dullBehind_0 : decode cX9_dullBehind 0 = .ok (.aload_n 0, 1) := by decide +kernel
theorem dX9_dullBehind_1 : decode cX9_dullBehind 1 = .ok (.iload_n 1, 1) := by decide +kernel
theorem dX9_dullBehind_2 : decode cX9_dullBehind 2 = .ok (.invokevirtual 132, 3) := by decide +kernel
theorem dX9_dullBehind_5 : decode cX9_dullBehind 5 = .ok (.ifCond .eq 14, 3) := by decide +kernel
theorem dX9_dullBehind_8 : decode cX9_dullBehind 8 = .ok (.iload_n 2, 1) := by decide +kernel
theorem dX9_dullBehind_9 : decode cX9_dullBehind 9 = .ok (.iconst 1, 1) := by decide +kernel
theorem dX9_dullBehind_10 : decode cX9_dullBehind 10 = .ok (.sipush 200, 3) := by decide +kernel
theorem dX9_dullBehind_13 : decode cX9_dullBehind 13 = .ok (.invokestatic 38, 3) := by decide +kernel
theorem dX9_dullBehind_16 : decode cX9_dullBehind 16 = .ok (.ifCond .ne 6, 3) := by decide +kernel
theorem dX9_dullBehind_19 : decode cX9_dullBehind 19 = .ok (.ldc 32, 2) := by decide +kernel
theorem dX9_dullBehind_21 : decode cX9_dullBehind 21 = .ok (.ireturn, 1) := by decide +kernel
theorem dX9_dullBehind_22 : decode cX9_dullBehind 22 = .ok (.aload_n 0, 1) := by decide +kernel
theorem dX9_dullBehind_23 : decode cX9_dullBehind 23 = .ok (.iload_n 1, 1) := by decide +kernel
theorem dX9_dullBehind_24 : decode cX9_dullBehind 24 = .ok (.iconst 3, 1) := by decide +kernel
theorem dX9_dullBehind_25 : decode cX9_dullBehind 25 = .ok (.invokevirtual 79, 3) := by decide +kernel
theorem dX9_dullBehind_28 : decode cX9_dullBehind 28 = .ok (.iconst 4, 1) := by decide +kernel
theorem dX9_dullBehind_29 : decode cX9_dullBehind 29 = .ok (.if_icmp .ne 8, 3) := by decide +kernel
theorem dX9_dullBehind_32 : decode cX9_dullBehind 32 = .ok (.ldc 78, 2) := by decide +kernel
theorem dX9_dullBehind_34 : decode cX9_dullBehind 34 = .ok (.goto 12, 3) := by decide +kernel
theorem dX9_dullBehind_37 : decode cX9_dullBehind 37 = .ok (.aload_n 0, 1) := by decide +kernel
theorem dX9_dullBehind_38 : decode cX9_dullBehind 38 = .ok (.iload_n 1, 1) := by decide +kernel
theorem dX9_dullBehind_39 : decode cX9_dullBehind 39 = .ok (.iload_n 2, 1) := by decide +kernel
theorem dX9_dullBehind_40 : decode cX9_dullBehind 40 = .ok (.invokevirtual 152, 3) := by decide +kernel
theorem dX9_dullBehind_43 : decode cX9_dullBehind 43 = .ok (.invokestatic 165, 3) := by decide +kernel
theorem dX9_dullBehind_46 : decode cX9_dullBehind 46 = .ok (.ireturn, 1) := by decide +kernel
theorem dX9_mean_0 : decode cX9_mean 0 = .ok (.iload_n 1, 1) := by decide +kernel
theorem dX9_mean_1 : decode cX9_mean 1 = .ok (.iconst 0, 1) := by decide +kernel
theorem dX9_mean_2 : decode cX9_mean 2 = .ok (.iconst 1, 1) := by decide +kernel
theorem dX9_mean_3 : decode cX9_mean 3 = .ok (.invokestatic 38, 3) := by decide +kernel
theorem dX9_mean_6 : decode cX9_mean 6 = .ok (.ifCond .ne 6, 3) := by decide +kernel
theorem dX9_mean_9 : decode cX9_mean 9 = .ok (.ldc 32, 2) := by decide +kernel
theorem dX9_mean_11 : decode cX9_mean 11 = .ok (.ireturn, 1) := by decide +kernel
theorem dX9_mean_12 : decode cX9_mean 12 = .ok (.dconst 0, 1) := by decide +kernel
theorem dX9_mean_13 : decode cX9_mean 13 = .ok (.dstore_n 2, 1) := by decide +kernel
theorem dX9_mean_14 : decode cX9_mean 14 = .ok (.iconst 0, 1) := by decide +kernel
theorem dX9_mean_15 : decode cX9_mean 15 = .ok (.istore 4, 2) := by decide +kernel
theorem dX9_mean_17 : decode cX9_mean 17 = .ok (.iconst 0, 1) := by decide +kernel
theorem dX9_mean_18 : decode cX9_mean 18 = .ok (.istore 5, 2) := by decide +kernel
theorem dX9_mean_20 : decode cX9_mean 20 = .ok (.iload 5, 2) := by decide +kernel
theorem dX9_mean_22 : decode cX9_mean 22 = .ok (.aload_n 0, 1) := by decide +kernel
theorem dX9_mean_23 : decode cX9_mean 23 = .ok (.getfield 7, 3) := by decide +kernel
theorem dX9_mean_26 : decode cX9_mean 26 = .ok (.bipush 9, 2) := by decide +kernel
theorem dX9_mean_28 : decode cX9_mean 28 = .ok (.iaload, 1) := by decide +kernel
theorem dX9_mean_29 : decode cX9_mean 29 = .ok (.if_icmp .ge 48, 3) := by decide +kernel
theorem dX9_mean_32 : decode cX9_mean 32 = .ok (.aload_n 0, 1) := by decide +kernel
theorem dX9_mean_33 : decode cX9_mean 33 = .ok (.iload 5, 2) := by decide +kernel
theorem dX9_mean_35 : decode cX9_mean 35 = .ok (.iconst 0, 1) := by decide +kernel
theorem dX9_mean_36 : decode cX9_mean 36 = .ok (.invokevirtual 79, 3) := by decide +kernel
theorem dX9_mean_39 : decode cX9_mean 39 = .ok (.iload_n 1, 1) := by decide +kernel
theorem dX9_mean_40 : decode cX9_mean 40 = .ok (.if_icmp .ne 31, 3) := by decide +kernel
theorem dX9_mean_43 : decode cX9_mean 43 = .ok (.aload_n 0, 1) := by decide +kernel
theorem dX9_mean_44 : decode cX9_mean 44 = .ok (.iload 5, 2) := by decide +kernel
theorem dX9_mean_46 : decode cX9_mean 46 = .ok (.iconst 3, 1) := by decide +kernel
theorem dX9_mean_47 : decode cX9_mean 47 = .ok (.invokevirtual 79, 3) := by decide +kernel
theorem dX9_mean_50 : decode cX9_mean 50 = .ok (.ifCond .ne 21, 3) := by decide +kernel
theorem dX9_mean_53 : decode cX9_mean 53 = .ok (.dload_n 2, 1) := by decide +kernel
theorem dX9_mean_54 : decode cX9_mean 54 = .ok (.aload_n 0, 1) := by decide +kernel
theorem dX9_mean_55 : decode cX9_mean 55 = .ok (.iload 5, 2) := by decide +kernel
theorem dX9_mean_57 : decode cX9_mean 57 = .ok (.bipush 6, 2) := by decide +kernel
theorem dX9_mean_59 : decode cX9_mean 59 = .ok (.invokevirtual 79, 3) := by decide +kernel
theorem dX9_mean_62 : decode cX9_mean 62 = .ok (.invokestatic 119, 3) := by decide +kernel
theorem dX9_mean_65 : decode cX9_mean 65 = .ok (.f2d, 1) := by decide +kernel
theorem dX9_mean_66 : decode cX9_mean 66 = .ok (.dadd, 1) := by decide +kernel
theorem dX9_mean_67 : decode cX9_mean 67 = .ok (.dstore_n 2, 1) := by decide +kernel
theorem dX9_mean_68 : decode cX9_mean 68 = .ok (.iinc 4 1, 3) := by decide +kernel
theorem dX9_mean_71 : decode cX9_mean 71 = .ok (.iinc 5 1, 3) := by decide +kernel
theorem dX9_mean_74 : decode cX9_mean 74 = .ok (.goto (-54), 3) := by decide +kernel
theorem dX9_mean_77 : decode cX9_mean 77 = .ok (.iload 4, 2) := by decide +kernel
theorem dX9_mean_79 : decode cX9_mean 79 = .ok (.ifCond .ne 8, 3) := by decide +kernel
theorem dX9_mean_82 : decode cX9_mean 82 = .ok (.ldc 33, 2) := by decide +kernel
theorem dX9_mean_84 : decode cX9_mean 84 = .ok (.goto 13, 3) := by decide +kernel
theorem dX9_mean_87 : decode cX9_mean 87 = .ok (.dload_n 2, 1) := by decide +kernel
theorem dX9_mean_88 : decode cX9_mean 88 = .ok (.iload 4, 2) := by decide +kernel
theorem dX9_mean_90 : decode cX9_mean 90 = .ok (.i2d, 1) := by decide +kernel
theorem dX9_mean_91 : decode cX9_mean 91 = .ok (.ddiv, 1) := by decide +kernel
theorem dX9_mean_92 : decode cX9_mean 92 = .ok (.ldc2_w 168, 3) := by decide +kernel
theorem dX9_mean_95 : decode cX9_mean 95 = .ok (.dmul, 1) := by decide +kernel
theorem dX9_mean_96 : decode cX9_mean 96 = .ok (.d2i, 1) := by decide +kernel
theorem dX9_mean_97 : decode cX9_mean 97 = .ok (.ireturn, 1) := by decide +kernel
theorem dX9_hookAt_0 : decode cX9_hookAt 0 = .ok (.iload_n 1, 1) := by decide +kernel
theorem dX9_hookAt_1 : decode cX9_hookAt 1 = .ok (.iconst 0, 1) := by decide +kernel
theorem dX9_hookAt_2 : decode cX9_hookAt 2 = .ok (.iconst 2, 1) := by decide +kernel
theorem dX9_hookAt_3 : decode cX9_hookAt 3 = .ok (.invokestatic 38, 3) := by decide +kernel
theorem dX9_hookAt_6 : decode cX9_hookAt 6 = .ok (.ifCond .eq 25, 3) := by decide +kernel
theorem dX9_hookAt_9 : decode cX9_hookAt 9 = .ok (.iload_n 2, 1) := by decide +kernel
theorem dX9_hookAt_10 : decode cX9_hookAt 10 = .ok (.iconst 0, 1) := by decide +kernel
theorem dX9_hookAt_11 : decode cX9_hookAt 11 = .ok (.iconst 3, 1) := by decide +kernel
theorem dX9_hookAt_12 : decode cX9_hookAt 12 = .ok (.invokestatic 38, 3) := by decide +kernel
theorem dX9_hookAt_15 : decode cX9_hookAt 15 = .ok (.ifCond .eq 16, 3) := by decide +kernel
theorem dX9_hookAt_18 : decode cX9_hookAt 18 = .ok (.aload_n 0, 1) := by decide +kernel
theorem dX9_hookAt_19 : decode cX9_hookAt 19 = .ok (.bipush 10, 2) := by decide +kernel
theorem dX9_hookAt_21 : decode cX9_hookAt 21 = .ok (.iload_n 1, 1) := by decide +kernel
theorem dX9_hookAt_22 : decode cX9_hookAt 22 = .ok (.imul, 1) := by decide +kernel
theorem dX9_hookAt_23 : decode cX9_hookAt 23 = .ok (.iload_n 2, 1) := by decide +kernel
theorem dX9_hookAt_24 : decode cX9_hookAt 24 = .ok (.iadd, 1) := by decide +kernel
theorem dX9_hookAt_25 : decode cX9_hookAt 25 = .ok (.invokevirtual 129, 3) := by decide +kernel
theorem dX9_hookAt_28 : decode cX9_hookAt 28 = .ok (.goto 5, 3) := by decide +kernel
theorem dX9_hookAt_31 : decode cX9_hookAt 31 = .ok (.ldc 32, 2) := by decide +kernel
theorem dX9_hookAt_33 : decode cX9_hookAt 33 = .ok (.ireturn, 1) := by decide +kernel
theorem dX9_isCutter_0 : decode cX9_isCutter 0 = .ok (.aload_n 0, 1) := by decide +kernel
theorem dX9_isCutter_1 : decode cX9_isCutter 1 = .ok (.iload_n 1, 1) := by decide +kernel
theorem dX9_isCutter_2 : decode cX9_isCutter 2 = .ok (.iconst 0, 1) := by decide +kernel
theorem dX9_isCutter_3 : decode cX9_isCutter 3 = .ok (.invokevirtual 79, 3) := by decide +kernel
theorem dX9_isCutter_6 : decode cX9_isCutter 6 = .ok (.ifCond .ne 16, 3) := by decide +kernel
theorem dX9_isCutter_9 : decode cX9_isCutter 9 = .ok (.aload_n 0, 1) := by decide +kernel
theorem dX9_isCutter_10 : decode cX9_isCutter 10 = .ok (.iload_n 1, 1) := by decide +kernel
theorem dX9_isCutter_11 : decode cX9_isCutter 11 = .ok (.iconst 3, 1) := by decide +kernel
theorem dX9_isCutter_12 : decode cX9_isCutter 12 = .ok (.invokevirtual 79, 3) := by decide +kernel
theorem dX9_isCutter_15 : decode cX9_isCutter 15 = .ok (.ifCond .ne 7, 3) := by decide +kernel
theorem dX9_isCutter_18 : decode cX9_isCutter 18 = .ok (.iconst 1, 1) := by decide +kernel
theorem dX9_isCutter_19 : decode cX9_isCutter 19 = .ok (.goto 4, 3) := by decide +kernel
theorem dX9_isCutter_22 : decode cX9_isCutter 22 = .ok (.iconst 0, 1) := by decide +kernel
theorem dX9_isCutter_23 : decode cX9_isCutter 23 = .ok (.ireturn, 1) := by decide +kernel
theorem dX9_isDuller_0 : decode cX9_isDuller 0 = .ok (.aload_n 0, 1) := by decide +kernel
theorem dX9_isDuller_1 : decode cX9_isDuller 1 = .ok (.iload_n 1, 1) := by decide +kernel
theorem dX9_isDuller_2 : decode cX9_isDuller 2 = .ok (.bipush 6, 2) := by decide +kernel
theorem dX9_isDuller_4 : decode cX9_isDuller 4 = .ok (.invokevirtual 79, 3) := by decide +kernel
theorem dX9_isDuller_7 : decode cX9_isDuller 7 = .ok (.invokestatic 119, 3) := by decide +kernel
theorem dX9_isDuller_10 : decode cX9_isDuller 10 = .ok (.fstore_n 3, 1) := by decide +kernel
theorem dX9_isDuller_11 : decode cX9_isDuller 11 = .ok (.aload_n 0, 1) := by decide +kernel
theorem dX9_isDuller_12 : decode cX9_isDuller 12 = .ok (.iload_n 2, 1) := by decide +kernel
theorem dX9_isDuller_13 : decode cX9_isDuller 13 = .ok (.bipush 6, 2) := by decide +kernel
theorem dX9_isDuller_15 : decode cX9_isDuller 15 = .ok (.invokevirtual 79, 3) := by decide +kernel
theorem dX9_isDuller_18 : decode cX9_isDuller 18 = .ok (.invokestatic 119, 3) := by decide +kernel
theorem dX9_isDuller_21 : decode cX9_isDuller 21 = .ok (.fstore 4, 2) := by decide +kernel
theorem dX9_isDuller_23 : decode cX9_isDuller 23 = .ok (.fload_n 3, 1) := by decide +kernel
theorem dX9_isDuller_24 : decode cX9_isDuller 24 = .ok (.fload 4, 2) := by decide +kernel
theorem dX9_isDuller_26 : decode cX9_isDuller 26 = .ok (.fcmp .g, 1) := by decide +kernel
theorem dX9_isDuller_27 : decode cX9_isDuller 27 = .ok (.ifCond .lt 15, 3) := by decide +kernel
theorem dX9_isDuller_30 : decode cX9_isDuller 30 = .ok (.fload_n 3, 1) := by decide +kernel
theorem dX9_isDuller_31 : decode cX9_isDuller 31 = .ok (.fload 4, 2) := by decide +kernel
theorem dX9_isDuller_33 : decode cX9_isDuller 33 = .ok (.fcmp .l, 1) := by decide +kernel
theorem dX9_isDuller_34 : decode cX9_isDuller 34 = .ok (.ifCond .ne 12, 3) := by decide +kernel
theorem dX9_isDuller_37 : decode cX9_isDuller 37 = .ok (.iload_n 1, 1) := by decide +kernel
theorem dX9_isDuller_38 : decode cX9_isDuller 38 = .ok (.iload_n 2, 1) := by decide +kernel
theorem dX9_isDuller_39 : decode cX9_isDuller 39 = .ok (.if_icmp .ge 7, 3) := by decide +kernel
theorem dX9_isDuller_42 : decode cX9_isDuller 42 = .ok (.iconst 1, 1) := by decide +kernel
theorem dX9_isDuller_43 : decode cX9_isDuller 43 = .ok (.goto 4, 3) := by decide +kernel
theorem dX9_isDuller_46 : decode cX9_isDuller 46 = .ok (.iconst 0, 1) := by decide +kernel
theorem dX9_isDuller_47 : decode cX9_isDuller 47 = .ok (.ireturn, 1) := by decide +kernel
theorem dX9_dullest_0 : decode cX9_dullest 0 = .ok (.iconst (-1), 1) := by decide +kernel
theorem dX9_dullest_1 : decode cX9_dullest 1 = .ok (.istore_n 1, 1) := by decide +kernel
theorem dX9_dullest_2 : decode cX9_dullest 2 = .ok (.iconst 0, 1) := by decide +kernel
theorem dX9_dullest_3 : decode cX9_dullest 3 = .ok (.istore_n 2, 1) := by decide +kernel
theorem dX9_dullest_4 : decode cX9_dullest 4 = .ok (.iload_n 2, 1) := by decide +kernel
theorem dX9_dullest_5 : decode cX9_dullest 5 = .ok (.aload_n 0, 1) := by decide +kernel
theorem dX9_dullest_6 : decode cX9_dullest 6 = .ok (.getfield 7, 3) := by decide +kernel
theorem dX9_dullest_9 : decode cX9_dullest 9 = .ok (.bipush 9, 2) := by decide +kernel
theorem dX9_dullest_11 : decode cX9_dullest 11 = .ok (.iaload, 1) := by decide +kernel
theorem dX9_dullest_12 : decode cX9_dullest 12 = .ok (.if_icmp .ge 36, 3) := by decide +kernel
theorem dX9_dullest_15 : decode cX9_dullest 15 = .ok (.aload_n 0, 1) := by decide +kernel
theorem dX9_dullest_16 : decode cX9_dullest 16 = .ok (.iload_n 2, 1) := by decide +kernel
theorem dX9_dullest_17 : decode cX9_dullest 17 = .ok (.invokevirtual 170, 3) := by decide +kernel
theorem dX9_dullest_20 : decode cX9_dullest 20 = .ok (.ifCond .eq 20, 3) := by decide +kernel
theorem dX9_dullest_23 : decode cX9_dullest 23 = .ok (.iload_n 1, 1) := by decide +kernel
theorem dX9_dullest_24 : decode cX9_dullest 24 = .ok (.ifCond .lt 12, 3) := by decide +kernel
theorem dX9_dullest_27 : decode cX9_dullest 27 = .ok (.aload_n 0, 1) := by decide +kernel
theorem dX9_dullest_28 : decode cX9_dullest 28 = .ok (.iload_n 2, 1) := by decide +kernel
theorem dX9_dullest_29 : decode cX9_dullest 29 = .ok (.iload_n 1, 1) := by decide +kernel
theorem dX9_dullest_30 : decode cX9_dullest 30 = .ok (.invokevirtual 173, 3) := by decide +kernel
theorem dX9_dullest_33 : decode cX9_dullest 33 = .ok (.ifCond .eq 7, 3) := by decide +kernel
theorem dX9_dullest_36 : decode cX9_dullest 36 = .ok (.iload_n 2, 1) := by decide +kernel
theorem dX9_dullest_37 : decode cX9_dullest 37 = .ok (.goto 4, 3) := by decide +kernel
theorem dX9_dullest_40 : decode cX9_dullest 40 = .ok (.iload_n 1, 1) := by decide +kernel
theorem dX9_dullest_41 : decode cX9_dullest 41 = .ok (.istore_n 1, 1) := by decide +kernel
theorem dX9_dullest_42 : decode cX9_dullest 42 = .ok (.iinc 2 1, 3) := by decide +kernel
theorem dX9_dullest_45 : decode cX9_dullest 45 = .ok (.goto (-41), 3) := by decide +kernel
theorem dX9_dullest_48 : decode cX9_dullest 48 = .ok (.iload_n 1, 1) := by decide +kernel
theorem dX9_dullest_49 : decode cX9_dullest 49 = .ok (.ireturn, 1) := by decide +kernel
theorem dX9_whoSharpens_0 : decode cX9_whoSharpens 0 = .ok (.iconst 0, 1) := by decide +kernel
theorem dX9_whoSharpens_1 : decode cX9_whoSharpens 1 = .ok (.istore_n 1, 1) := by decide +kernel
theorem dX9_whoSharpens_2 : decode cX9_whoSharpens 2 = .ok (.iload_n 1, 1) := by decide +kernel
theorem dX9_whoSharpens_3 : decode cX9_whoSharpens 3 = .ok (.aload_n 0, 1) := by decide +kernel
theorem dX9_whoSharpens_4 : decode cX9_whoSharpens 4 = .ok (.getfield 7, 3) := by decide +kernel
theorem dX9_whoSharpens_7 : decode cX9_whoSharpens 7 = .ok (.bipush 11, 2) := by decide +kernel
theorem dX9_whoSharpens_9 : decode cX9_whoSharpens 9 = .ok (.iaload, 1) := by decide +kernel
theorem dX9_whoSharpens_10 : decode cX9_whoSharpens 10 = .ok (.if_icmp .ge 36, 3) := by decide +kernel
theorem dX9_whoSharpens_13 : decode cX9_whoSharpens 13 = .ok (.aload_n 0, 1) := by decide +kernel
theorem dX9_whoSharpens_14 : decode cX9_whoSharpens 14 = .ok (.aload_n 0, 1) := by decide +kernel
theorem dX9_whoSharpens_15 : decode cX9_whoSharpens 15 = .ok (.getfield 7, 3) := by decide +kernel
theorem dX9_whoSharpens_18 : decode cX9_whoSharpens 18 = .ok (.bipush 12, 2) := by decide +kernel
theorem dX9_whoSharpens_20 : decode cX9_whoSharpens 20 = .ok (.iload_n 1, 1) := by decide +kernel
theorem dX9_whoSharpens_21 : decode cX9_whoSharpens 21 = .ok (.iadd, 1) := by decide +kernel
theorem dX9_whoSharpens_22 : decode cX9_whoSharpens 22 = .ok (.iaload, 1) := by decide +kernel
theorem dX9_whoSharpens_23 : decode cX9_whoSharpens 23 = .ok (.iconst 0, 1) := by decide +kernel
theorem dX9_whoSharpens_24 : decode cX9_whoSharpens 24 = .ok (.invokevirtual 46, 3) := by decide +kernel
theorem dX9_whoSharpens_27 : decode cX9_whoSharpens 27 = .ok (.ifCond .ne 13, 3) := by decide +kernel
theorem dX9_whoSharpens_30 : decode cX9_whoSharpens 30 = .ok (.aload_n 0, 1) := by decide +kernel
theorem dX9_whoSharpens_31 : decode cX9_whoSharpens 31 = .ok (.getfield 7, 3) := by decide +kernel
theorem dX9_whoSharpens_34 : decode cX9_whoSharpens 34 = .ok (.bipush 12, 2) := by decide +kernel
theorem dX9_whoSharpens_36 : decode cX9_whoSharpens 36 = .ok (.iload_n 1, 1) := by decide +kernel
theorem dX9_whoSharpens_37 : decode cX9_whoSharpens 37 = .ok (.iadd, 1) := by decide +kernel
theorem dX9_whoSharpens_38 : decode cX9_whoSharpens 38 = .ok (.iaload, 1) := by decide +kernel
theorem dX9_whoSharpens_39 : decode cX9_whoSharpens 39 = .ok (.ireturn, 1) := by decide +kernel
theorem dX9_whoSharpens_40 : decode cX9_whoSharpens 40 = .ok (.iinc 1 1, 3) := by decide +kernel
theorem dX9_whoSharpens_43 : decode cX9_whoSharpens 43 = .ok (.goto (-41), 3) := by decide +kernel
theorem dX9_whoSharpens_46 : decode cX9_whoSharpens 46 = .ok (.iconst (-1), 1) := by decide +kernel
theorem dX9_whoSharpens_47 : decode cX9_whoSharpens 47 = .ok (.ireturn, 1) := by decide +kernel
theorem dX9_isDull_0 : decode cX9_isDull 0 = .ok (.iload_n 1, 1) := by decide +kernel
theorem dX9_isDull_1 : decode cX9_isDull 1 = .ok (.ifCond .lt 29, 3) := by decide +kernel
theorem dX9_isDull_4 : decode cX9_isDull 4 = .ok (.aload_n 0, 1) := by decide +kernel
theorem dX9_isDull_5 : decode cX9_isDull 5 = .ok (.iload_n 1, 1) := by decide +kernel
theorem dX9_isDull_6 : decode cX9_isDull 6 = .ok (.bipush 6, 2) := by decide +kernel
theorem dX9_isDull_8 : decode cX9_isDull 8 = .ok (.invokevirtual 79, 3) := by decide +kernel
theorem dX9_isDull_11 : decode cX9_isDull 11 = .ok (.invokestatic 119, 3) := by decide +kernel
theorem dX9_isDull_14 : decode cX9_isDull 14 = .ok (.invokestatic 165, 3) := by decide +kernel
theorem dX9_isDull_17 : decode cX9_isDull 17 = .ok (.aload_n 0, 1) := by decide +kernel
theorem dX9_isDull_18 : decode cX9_isDull 18 = .ok (.getfield 7, 3) := by decide +kernel
theorem dX9_isDull_21 : decode cX9_isDull 21 = .ok (.iconst 4, 1) := by decide +kernel
theorem dX9_isDull_22 : decode cX9_isDull 22 = .ok (.iaload, 1) := by decide +kernel
theorem dX9_isDull_23 : decode cX9_isDull 23 = .ok (.if_icmp .ge 7, 3) := by decide +kernel
theorem dX9_isDull_26 : decode cX9_isDull 26 = .ok (.iconst 1, 1) := by decide +kernel
theorem dX9_isDull_27 : decode cX9_isDull 27 = .ok (.goto 4, 3) := by decide +kernel
theorem dX9_isDull_30 : decode cX9_isDull 30 = .ok (.iconst 0, 1) := by decide +kernel
theorem dX9_isDull_31 : decode cX9_isDull 31 = .ok (.ireturn, 1) := by decide +kernel
theorem dX9_sharpens_0 : decode cX9_sharpens 0 = .ok (.aload_n 0, 1) := by decide +kernel
theorem dX9_sharpens_1 : decode cX9_sharpens 1 = .ok (.iload_n 2, 1) := by decide +kernel
theorem dX9_sharpens_2 : decode cX9_sharpens 2 = .ok (.bipush 6, 2) := by decide +kernel
theorem dX9_sharpens_4 : decode cX9_sharpens 4 = .ok (.invokevirtual 79, 3) := by decide +kernel
theorem dX9_sharpens_7 : decode cX9_sharpens 7 = .ok (.invokestatic 119, 3) := by decide +kernel
theorem dX9_sharpens_10 : decode cX9_sharpens 10 = .ok (.fstore_n 3, 1) := by decide +kernel
theorem dX9_sharpens_11 : decode cX9_sharpens 11 = .ok (.aload_n 0, 1) := by decide +kernel
theorem dX9_sharpens_12 : decode cX9_sharpens 12 = .ok (.iload_n 2, 1) := by decide +kernel
theorem dX9_sharpens_13 : decode cX9_sharpens 13 = .ok (.bipush 6, 2) := by decide +kernel
theorem dX9_sharpens_15 : decode cX9_sharpens 15 = .ok (.fload_n 3, 1) := by decide +kernel
theorem dX9_sharpens_16 : decode cX9_sharpens 16 = .ok (.fconst 1, 1) := by decide +kernel
theorem dX9_sharpens_17 : decode cX9_sharpens 17 = .ok (.fload_n 3, 1) := by decide +kernel
theorem dX9_sharpens_18 : decode cX9_sharpens 18 = .ok (.fsub, 1) := by decide +kernel
theorem dX9_sharpens_19 : decode cX9_sharpens 19 = .ok (.aload_n 0, 1) := by decide +kernel
theorem dX9_sharpens_20 : decode cX9_sharpens 20 = .ok (.getfield 7, 3) := by decide +kernel
theorem dX9_sharpens_23 : decode cX9_sharpens 23 = .ok (.iconst 5, 1) := by decide +kernel
theorem dX9_sharpens_24 : decode cX9_sharpens 24 = .ok (.iaload, 1) := by decide +kernel
theorem dX9_sharpens_25 : decode cX9_sharpens 25 = .ok (.i2f, 1) := by decide +kernel
theorem dX9_sharpens_26 : decode cX9_sharpens 26 = .ok (.fmul, 1) := by decide +kernel
theorem dX9_sharpens_27 : decode cX9_sharpens 27 = .ok (.ldc 122, 2) := by decide +kernel
theorem dX9_sharpens_29 : decode cX9_sharpens 29 = .ok (.fdiv, 1) := by decide +kernel
theorem dX9_sharpens_30 : decode cX9_sharpens 30 = .ok (.fadd, 1) := by decide +kernel
theorem dX9_sharpens_31 : decode cX9_sharpens 31 = .ok (.invokestatic 126, 3) := by decide +kernel
theorem dX9_sharpens_34 : decode cX9_sharpens 34 = .ok (.invokevirtual 123, 3) := by decide +kernel
theorem dX9_sharpens_37 : decode cX9_sharpens 37 = .ok (.aload_n 0, 1) := by decide +kernel
theorem dX9_sharpens_38 : decode cX9_sharpens 38 = .ok (.iload_n 1, 1) := by decide +kernel
theorem dX9_sharpens_39 : decode cX9_sharpens 39 = .ok (.aload_n 0, 1) := by decide +kernel
theorem dX9_sharpens_40 : decode cX9_sharpens 40 = .ok (.getfield 7, 3) := by decide +kernel
theorem dX9_sharpens_43 : decode cX9_sharpens 43 = .ok (.iconst 3, 1) := by decide +kernel
theorem dX9_sharpens_44 : decode cX9_sharpens 44 = .ok (.iaload, 1) := by decide +kernel
theorem dX9_sharpens_45 : decode cX9_sharpens 45 = .ok (.iconst 1, 1) := by decide +kernel
theorem dX9_sharpens_46 : decode cX9_sharpens 46 = .ok (.invokevirtual 58, 3) := by decide +kernel
theorem dX9_sharpens_49 : decode cX9_sharpens 49 = .ok (.aload_n 0, 1) := by decide +kernel
theorem dX9_sharpens_50 : decode cX9_sharpens 50 = .ok (.iload_n 1, 1) := by decide +kernel
theorem dX9_sharpens_51 : decode cX9_sharpens 51 = .ok (.invokevirtual 98, 3) := by decide +kernel
theorem dX9_sharpens_54 : decode cX9_sharpens 54 = .ok (.aload_n 0, 1) := by decide +kernel
theorem dX9_sharpens_55 : decode cX9_sharpens 55 = .ok (.getfield 7, 3) := by decide +kernel
theorem dX9_sharpens_58 : decode cX9_sharpens 58 = .ok (.bipush 12, 2) := by decide +kernel
theorem dX9_sharpens_60 : decode cX9_sharpens 60 = .ok (.aload_n 0, 1) := by decide +kernel
theorem dX9_sharpens_61 : decode cX9_sharpens 61 = .ok (.getfield 7, 3) := by decide +kernel
theorem dX9_sharpens_64 : decode cX9_sharpens 64 = .ok (.bipush 11, 2) := by decide +kernel
theorem dX9_sharpens_66 : decode cX9_sharpens 66 = .ok (.iaload, 1) := by decide +kernel
theorem dX9_sharpens_67 : decode cX9_sharpens 67 = .ok (.iadd, 1) := by decide +kernel
theorem dX9_sharpens_68 : decode cX9_sharpens 68 = .ok (.iload_n 1, 1) := by decide +kernel
theorem dX9_sharpens_69 : decode cX9_sharpens 69 = .ok (.iastore, 1) := by decide +kernel
theorem dX9_sharpens_70 : decode cX9_sharpens 70 = .ok (.aload_n 0, 1) := by decide +kernel
theorem dX9_sharpens_71 : decode cX9_sharpens 71 = .ok (.getfield 7, 3) := by decide +kernel
theorem dX9_sharpens_74 : decode cX9_sharpens 74 = .ok (.bipush 11, 2) := by decide +kernel
theorem dX9_sharpens_76 : decode cX9_sharpens 76 = .ok (.dup2, 1) := by decide +kernel
theorem dX9_sharpens_77 : decode cX9_sharpens 77 = .ok (.iaload, 1) := by decide +kernel
theorem dX9_sharpens_78 : decode cX9_sharpens 78 = .ok (.iconst 1, 1) := by decide +kernel
theorem dX9_sharpens_79 : decode cX9_sharpens 79 = .ok (.iadd, 1) := by decide +kernel
theorem dX9_sharpens_80 : decode cX9_sharpens 80 = .ok (.iastore, 1) := by decide +kernel
theorem dX9_sharpens_81 : decode cX9_sharpens 81 = .ok (.return_, 1) := by decide +kernel
theorem dX9_sharpen_0 : decode cX9_sharpen 0 = .ok (.aload_n 0, 1) := by decide +kernel
theorem dX9_sharpen_1 : decode cX9_sharpen 1 = .ok (.invokevirtual 176, 3) := by decide +kernel
theorem dX9_sharpen_4 : decode cX9_sharpen 4 = .ok (.istore_n 1, 1) := by decide +kernel
theorem dX9_sharpen_5 : decode cX9_sharpen 5 = .ok (.aload_n 0, 1) := by decide +kernel
theorem dX9_sharpen_6 : decode cX9_sharpen 6 = .ok (.invokevirtual 180, 3) := by decide +kernel
theorem dX9_sharpen_9 : decode cX9_sharpen 9 = .ok (.istore_n 2, 1) := by decide +kernel
theorem dX9_sharpen_10 : decode cX9_sharpen 10 = .ok (.iload_n 1, 1) := by decide +kernel
theorem dX9_sharpen_11 : decode cX9_sharpen 11 = .ok (.ifCond .ge 6, 3) := by decide +kernel
theorem dX9_sharpen_14 : decode cX9_sharpen 14 = .ok (.ldc 78, 2) := by decide +kernel
theorem dX9_sharpen_16 : decode cX9_sharpen 16 = .ok (.ireturn, 1) := by decide +kernel
theorem dX9_sharpen_17 : decode cX9_sharpen 17 = .ok (.aload_n 0, 1) := by decide +kernel
theorem dX9_sharpen_18 : decode cX9_sharpen 18 = .ok (.iload_n 2, 1) := by decide +kernel
theorem dX9_sharpen_19 : decode cX9_sharpen 19 = .ok (.invokevirtual 183, 3) := by decide +kernel
theorem dX9_sharpen_22 : decode cX9_sharpen 22 = .ok (.ifCond .ne 6, 3) := by decide +kernel
theorem dX9_sharpen_25 : decode cX9_sharpen 25 = .ok (.ldc 33, 2) := by decide +kernel
theorem dX9_sharpen_27 : decode cX9_sharpen 27 = .ok (.ireturn, 1) := by decide +kernel
theorem dX9_sharpen_28 : decode cX9_sharpen 28 = .ok (.aload_n 0, 1) := by decide +kernel
theorem dX9_sharpen_29 : decode cX9_sharpen 29 = .ok (.invokevirtual 67, 3) := by decide +kernel
theorem dX9_sharpen_32 : decode cX9_sharpen 32 = .ok (.aload_n 0, 1) := by decide +kernel
theorem dX9_sharpen_33 : decode cX9_sharpen 33 = .ok (.iload_n 1, 1) := by decide +kernel
theorem dX9_sharpen_34 : decode cX9_sharpen 34 = .ok (.iload_n 2, 1) := by decide +kernel
theorem dX9_sharpen_35 : decode cX9_sharpen 35 = .ok (.invokevirtual 186, 3) := by decide +kernel
theorem dX9_sharpen_38 : decode cX9_sharpen 38 = .ok (.aload_n 0, 1) := by decide +kernel
theorem dX9_sharpen_39 : decode cX9_sharpen 39 = .ok (.iload_n 2, 1) := by decide +kernel
theorem dX9_sharpen_40 : decode cX9_sharpen 40 = .ok (.invokevirtual 70, 3) := by decide +kernel
theorem dX9_sharpen_43 : decode cX9_sharpen 43 = .ok (.ireturn, 1) := by decide +kernel
theorem dX9_swap_0 : decode cX9_swap 0 = .ok (.aload_n 0, 1) := by decide +kernel
theorem dX9_swap_1 : decode cX9_swap 1 = .ok (.iload_n 1, 1) := by decide +kernel
theorem dX9_swap_2 : decode cX9_swap 2 = .ok (.invokevirtual 74, 3) := by decide +kernel
theorem dX9_swap_5 : decode cX9_swap 5 = .ok (.ifCond .eq 16, 3) := by decide +kernel
theorem dX9_swap_8 : decode cX9_swap 8 = .ok (.aload_n 0, 1) := by decide +kernel
theorem dX9_swap_9 : decode cX9_swap 9 = .ok (.iload_n 2, 1) := by decide +kernel
theorem dX9_swap_10 : decode cX9_swap 10 = .ok (.invokevirtual 74, 3) := by decide +kernel
theorem dX9_swap_13 : decode cX9_swap 13 = .ok (.ifCond .eq 8, 3) := by decide +kernel
theorem dX9_swap_16 : decode cX9_swap 16 = .ok (.iload_n 1, 1) := by decide +kernel
theorem dX9_swap_17 : decode cX9_swap 17 = .ok (.iload_n 2, 1) := by decide +kernel
theorem dX9_swap_18 : decode cX9_swap 18 = .ok (.if_icmp .ne 6, 3) := by decide +kernel
theorem dX9_swap_21 : decode cX9_swap 21 = .ok (.ldc 32, 2) := by decide +kernel
theorem dX9_swap_23 : decode cX9_swap 23 = .ok (.ireturn, 1) := by decide +kernel
theorem dX9_swap_24 : decode cX9_swap 24 = .ok (.aload_n 0, 1) := by decide +kernel
theorem dX9_swap_25 : decode cX9_swap 25 = .ok (.iload_n 1, 1) := by decide +kernel
theorem dX9_swap_26 : decode cX9_swap 26 = .ok (.iconst 0, 1) := by decide +kernel
theorem dX9_swap_27 : decode cX9_swap 27 = .ok (.invokevirtual 46, 3) := by decide +kernel
theorem dX9_swap_30 : decode cX9_swap 30 = .ok (.iconst 2, 1) := by decide +kernel
theorem dX9_swap_31 : decode cX9_swap 31 = .ok (.if_icmp .eq 13, 3) := by decide +kernel
theorem dX9_swap_34 : decode cX9_swap 34 = .ok (.aload_n 0, 1) := by decide +kernel
theorem dX9_swap_35 : decode cX9_swap 35 = .ok (.iload_n 2, 1) := by decide +kernel
theorem dX9_swap_36 : decode cX9_swap 36 = .ok (.iconst 0, 1) := by decide +kernel
theorem dX9_swap_37 : decode cX9_swap 37 = .ok (.invokevirtual 46, 3) := by decide +kernel
theorem dX9_swap_40 : decode cX9_swap 40 = .ok (.iconst 2, 1) := by decide +kernel
theorem dX9_swap_41 : decode cX9_swap 41 = .ok (.if_icmp .ne 6, 3) := by decide +kernel
theorem dX9_swap_44 : decode cX9_swap 44 = .ok (.ldc 78, 2) := by decide +kernel
theorem dX9_swap_46 : decode cX9_swap 46 = .ok (.ireturn, 1) := by decide +kernel
theorem dX9_swap_47 : decode cX9_swap 47 = .ok (.aload_n 0, 1) := by decide +kernel
theorem dX9_swap_48 : decode cX9_swap 48 = .ok (.invokevirtual 67, 3) := by decide +kernel
theorem dX9_swap_51 : decode cX9_swap 51 = .ok (.aload_n 0, 1) := by decide +kernel
theorem dX9_swap_52 : decode cX9_swap 52 = .ok (.iload_n 1, 1) := by decide +kernel
theorem dX9_swap_53 : decode cX9_swap 53 = .ok (.invokevirtual 85, 3) := by decide +kernel
theorem dX9_swap_56 : decode cX9_swap 56 = .ok (.istore_n 3, 1) := by decide +kernel
theorem dX9_swap_57 : decode cX9_swap 57 = .ok (.aload_n 0, 1) := by decide +kernel
theorem dX9_swap_58 : decode cX9_swap 58 = .ok (.iload_n 2, 1) := by decide +kernel
theorem dX9_swap_59 : decode cX9_swap 59 = .ok (.invokevirtual 85, 3) := by decide +kernel
theorem dX9_swap_62 : decode cX9_swap 62 = .ok (.istore 4, 2) := by decide +kernel
theorem dX9_swap_64 : decode cX9_swap 64 = .ok (.aload_n 0, 1) := by decide +kernel
theorem dX9_swap_65 : decode cX9_swap 65 = .ok (.getfield 7, 3) := by decide +kernel
theorem dX9_swap_68 : decode cX9_swap 68 = .ok (.bipush 12, 2) := by decide +kernel
theorem dX9_swap_70 : decode cX9_swap 70 = .ok (.iload_n 3, 1) := by decide +kernel
theorem dX9_swap_71 : decode cX9_swap 71 = .ok (.iadd, 1) := by decide +kernel
theorem dX9_swap_72 : decode cX9_swap 72 = .ok (.iload_n 2, 1) := by decide +kernel
theorem dX9_swap_73 : decode cX9_swap 73 = .ok (.iastore, 1) := by decide +kernel
theorem dX9_swap_74 : decode cX9_swap 74 = .ok (.aload_n 0, 1) := by decide +kernel
theorem dX9_swap_75 : decode cX9_swap 75 = .ok (.getfield 7, 3) := by decide +kernel
theorem dX9_swap_78 : decode cX9_swap 78 = .ok (.bipush 12, 2) := by decide +kernel
theorem dX9_swap_80 : decode cX9_swap 80 = .ok (.iload 4, 2) := by decide +kernel
theorem dX9_swap_82 : decode cX9_swap 82 = .ok (.iadd, 1) := by decide +kernel
theorem dX9_swap_83 : decode cX9_swap 83 = .ok (.iload_n 1, 1) := by decide +kernel
theorem dX9_swap_84 : decode cX9_swap 84 = .ok (.iastore, 1) := by decide +kernel
theorem dX9_swap_85 : decode cX9_swap 85 = .ok (.aload_n 0, 1) := by decide +kernel
theorem dX9_swap_86 : decode cX9_swap 86 = .ok (.iload 4, 2) := by decide +kernel
theorem dX9_swap_88 : decode cX9_swap 88 = .ok (.invokevirtual 70, 3) := by decide +kernel
theorem dX9_swap_91 : decode cX9_swap 91 = .ok (.ireturn, 1) := by decide +kernel
theorem dX9_turnAt_0 : decode cX9_turnAt 0 = .ok (.iload_n 1, 1) := by decide +kernel
theorem dX9_turnAt_1 : decode cX9_turnAt 1 = .ok (.ifCond .ge 8, 3) := by decide +kernel
theorem dX9_turnAt_4 : decode cX9_turnAt 4 = .ok (.ldc 32, 2) := by decide +kernel
theorem dX9_turnAt_6 : decode cX9_turnAt 6 = .ok (.goto 28, 3) := by decide +kernel
theorem dX9_turnAt_9 : decode cX9_turnAt 9 = .ok (.iload_n 1, 1) := by decide +kernel
theorem dX9_turnAt_10 : decode cX9_turnAt 10 = .ok (.aload_n 0, 1) := by decide +kernel
theorem dX9_turnAt_11 : decode cX9_turnAt 11 = .ok (.getfield 7, 3) := by decide +kernel
theorem dX9_turnAt_14 : decode cX9_turnAt 14 = .ok (.bipush 11, 2) := by decide +kernel
theorem dX9_turnAt_16 : decode cX9_turnAt 16 = .ok (.iaload, 1) := by decide +kernel
theorem dX9_turnAt_17 : decode cX9_turnAt 17 = .ok (.if_icmp .ge 15, 3) := by decide +kernel
theorem dX9_turnAt_20 : decode cX9_turnAt 20 = .ok (.aload_n 0, 1) := by decide +kernel
theorem dX9_turnAt_21 : decode cX9_turnAt 21 = .ok (.getfield 7, 3) := by decide +kernel
theorem dX9_turnAt_24 : decode cX9_turnAt 24 = .ok (.bipush 12, 2) := by decide +kernel
theorem dX9_turnAt_26 : decode cX9_turnAt 26 = .ok (.iload_n 1, 1) := by decide +kernel
theorem dX9_turnAt_27 : decode cX9_turnAt 27 = .ok (.iadd, 1) := by decide +kernel
theorem dX9_turnAt_28 : decode cX9_turnAt 28 = .ok (.iaload, 1) := by decide +kernel
theorem dX9_turnAt_29 : decode cX9_turnAt 29 = .ok (.goto 5, 3) := by decide +kernel
theorem dX9_turnAt_32 : decode cX9_turnAt 32 = .ok (.ldc 33, 2) := by decide +kernel
theorem dX9_turnAt_34 : decode cX9_turnAt 34 = .ok (.ireturn, 1) := by decide +kernel
theorem dX9_dullAt_0 : decode cX9_dullAt 0 = .ok (.iload_n 1, 1) := by decide +kernel
theorem dX9_dullAt_1 : decode cX9_dullAt 1 = .ok (.ifCond .ge 6, 3) := by decide +kernel
theorem dX9_dullAt_4 : decode cX9_dullAt 4 = .ok (.ldc 32, 2) := by decide +kernel
theorem dX9_dullAt_6 : decode cX9_dullAt 6 = .ok (.ireturn, 1) := by decide +kernel
theorem dX9_dullAt_7 : decode cX9_dullAt 7 = .ok (.iconst 0, 1) := by decide +kernel
theorem dX9_dullAt_8 : decode cX9_dullAt 8 = .ok (.istore_n 2, 1) := by decide +kernel
theorem dX9_dullAt_9 : decode cX9_dullAt 9 = .ok (.iload_n 2, 1) := by decide +kernel
theorem dX9_dullAt_10 : decode cX9_dullAt 10 = .ok (.aload_n 0, 1) := by decide +kernel
theorem dX9_dullAt_11 : decode cX9_dullAt 11 = .ok (.getfield 7, 3) := by decide +kernel
theorem dX9_dullAt_14 : decode cX9_dullAt 14 = .ok (.bipush 9, 2) := by decide +kernel
theorem dX9_dullAt_16 : decode cX9_dullAt 16 = .ok (.iaload, 1) := by decide +kernel
theorem dX9_dullAt_17 : decode cX9_dullAt 17 = .ok (.if_icmp .ge 74, 3) := by decide +kernel
theorem dX9_dullAt_20 : decode cX9_dullAt 20 = .ok (.iconst 0, 1) := by decide +kernel
theorem dX9_dullAt_21 : decode cX9_dullAt 21 = .ok (.istore_n 3, 1) := by decide +kernel
theorem dX9_dullAt_22 : decode cX9_dullAt 22 = .ok (.iconst 0, 1) := by decide +kernel
theorem dX9_dullAt_23 : decode cX9_dullAt 23 = .ok (.istore 4, 2) := by decide +kernel
theorem dX9_dullAt_25 : decode cX9_dullAt 25 = .ok (.iload 4, 2) := by decide +kernel
theorem dX9_dullAt_27 : decode cX9_dullAt 27 = .ok (.aload_n 0, 1) := by decide +kernel
theorem dX9_dullAt_28 : decode cX9_dullAt 28 = .ok (.getfield 7, 3) := by decide +kernel
theorem dX9_dullAt_31 : decode cX9_dullAt 31 = .ok (.bipush 9, 2) := by decide +kernel
theorem dX9_dullAt_33 : decode cX9_dullAt 33 = .ok (.iaload, 1) := by decide +kernel
theorem dX9_dullAt_34 : decode cX9_dullAt 34 = .ok (.if_icmp .ge 36, 3) := by decide +kernel
theorem dX9_dullAt_37 : decode cX9_dullAt 37 = .ok (.iload_n 3, 1) := by decide +kernel
theorem dX9_dullAt_38 : decode cX9_dullAt 38 = .ok (.aload_n 0, 1) := by decide +kernel
theorem dX9_dullAt_39 : decode cX9_dullAt 39 = .ok (.iload 4, 2) := by decide +kernel
theorem dX9_dullAt_41 : decode cX9_dullAt 41 = .ok (.invokevirtual 170, 3) := by decide +kernel
theorem dX9_dullAt_44 : decode cX9_dullAt 44 = .ok (.ifCond .eq 17, 3) := by decide +kernel
theorem dX9_dullAt_47 : decode cX9_dullAt 47 = .ok (.aload_n 0, 1) := by decide +kernel
theorem dX9_dullAt_48 : decode cX9_dullAt 48 = .ok (.iload 4, 2) := by decide +kernel
theorem dX9_dullAt_50 : decode cX9_dullAt 50 = .ok (.iload_n 2, 1) := by decide +kernel
theorem dX9_dullAt_51 : decode cX9_dullAt 51 = .ok (.invokevirtual 173, 3) := by decide +kernel
theorem dX9_dullAt_54 : decode cX9_dullAt 54 = .ok (.ifCond .eq 7, 3) := by decide +kernel
theorem dX9_dullAt_57 : decode cX9_dullAt 57 = .ok (.iconst 1, 1) := by decide +kernel
theorem dX9_dullAt_58 : decode cX9_dullAt 58 = .ok (.goto 4, 3) := by decide +kernel
theorem dX9_dullAt_61 : decode cX9_dullAt 61 = .ok (.iconst 0, 1) := by decide +kernel
theorem dX9_dullAt_62 : decode cX9_dullAt 62 = .ok (.iadd, 1) := by decide +kernel
theorem dX9_dullAt_63 : decode cX9_dullAt 63 = .ok (.istore_n 3, 1) := by decide +kernel
theorem dX9_dullAt_64 : decode cX9_dullAt 64 = .ok (.iinc 4 1, 3) := by decide +kernel
theorem dX9_dullAt_67 : decode cX9_dullAt 67 = .ok (.goto (-42), 3) := by decide +kernel
theorem dX9_dullAt_70 : decode cX9_dullAt 70 = .ok (.aload_n 0, 1) := by decide +kernel
theorem dX9_dullAt_71 : decode cX9_dullAt 71 = .ok (.iload_n 2, 1) := by decide +kernel
theorem dX9_dullAt_72 : decode cX9_dullAt 72 = .ok (.invokevirtual 170, 3) := by decide +kernel
theorem dX9_dullAt_75 : decode cX9_dullAt 75 = .ok (.ifCond .eq 10, 3) := by decide +kernel
theorem dX9_dullAt_78 : decode cX9_dullAt 78 = .ok (.iload_n 3, 1) := by decide +kernel
theorem dX9_dullAt_79 : decode cX9_dullAt 79 = .ok (.iload_n 1, 1) := by decide +kernel
theorem dX9_dullAt_80 : decode cX9_dullAt 80 = .ok (.if_icmp .ne 5, 3) := by decide +kernel
theorem dX9_dullAt_83 : decode cX9_dullAt 83 = .ok (.iload_n 2, 1) := by decide +kernel
theorem dX9_dullAt_84 : decode cX9_dullAt 84 = .ok (.ireturn, 1) := by decide +kernel
theorem dX9_dullAt_85 : decode cX9_dullAt 85 = .ok (.iinc 2 1, 3) := by decide +kernel
theorem dX9_dullAt_88 : decode cX9_dullAt 88 = .ok (.goto (-79), 3) := by decide +kernel
theorem dX9_dullAt_91 : decode cX9_dullAt 91 = .ok (.ldc 33, 2) := by decide +kernel
theorem dX9_dullAt_93 : decode cX9_dullAt 93 = .ok (.ireturn, 1) := by decide +kernel
theorem dX9_isCalled_0 : decode cX9_isCalled 0 = .ok (.iconst 0, 1) := by decide +kernel
theorem dX9_isCalled_1 : decode cX9_isCalled 1 = .ok (.istore_n 3, 1) := by decide +kernel
theorem dX9_isCalled_2 : decode cX9_isCalled 2 = .ok (.iconst 0, 1) := by decide +kernel
theorem dX9_isCalled_3 : decode cX9_isCalled 3 = .ok (.istore 4, 2) := by decide +kernel
theorem dX9_isCalled_5 : decode cX9_isCalled 5 = .ok (.iload 4, 2) := by decide +kernel
theorem dX9_isCalled_7 : decode cX9_isCalled 7 = .ok (.iload_n 2, 1) := by decide +kernel
theorem dX9_isCalled_8 : decode cX9_isCalled 8 = .ok (.if_icmp .ge 30, 3) := by decide +kernel
theorem dX9_isCalled_11 : decode cX9_isCalled 11 = .ok (.iload_n 3, 1) := by decide +kernel
theorem dX9_isCalled_12 : decode cX9_isCalled 12 = .ok (.ifCond .ne 14, 3) := by decide +kernel
theorem dX9_isCalled_15 : decode cX9_isCalled 15 = .ok (.aload_n 0, 1) := by decide +kernel
theorem dX9_isCalled_16 : decode cX9_isCalled 16 = .ok (.getfield 25, 3) := by decide +kernel
theorem dX9_isCalled_19 : decode cX9_isCalled 19 = .ok (.iload 4, 2) := by decide +kernel
theorem dX9_isCalled_21 : decode cX9_isCalled 21 = .ok (.iaload, 1) := by decide +kernel
theorem dX9_isCalled_22 : decode cX9_isCalled 22 = .ok (.iload_n 1, 1) := by decide +kernel
theorem dX9_isCalled_23 : decode cX9_isCalled 23 = .ok (.if_icmp .ne 7, 3) := by decide +kernel
theorem dX9_isCalled_26 : decode cX9_isCalled 26 = .ok (.iconst 1, 1) := by decide +kernel
theorem dX9_isCalled_27 : decode cX9_isCalled 27 = .ok (.goto 4, 3) := by decide +kernel
theorem dX9_isCalled_30 : decode cX9_isCalled 30 = .ok (.iconst 0, 1) := by decide +kernel
theorem dX9_isCalled_31 : decode cX9_isCalled 31 = .ok (.istore_n 3, 1) := by decide +kernel
theorem dX9_isCalled_32 : decode cX9_isCalled 32 = .ok (.iinc 4 1, 3) := by decide +kernel
theorem dX9_isCalled_35 : decode cX9_isCalled 35 = .ok (.goto (-30), 3) := by decide +kernel
theorem dX9_isCalled_38 : decode cX9_isCalled 38 = .ok (.iload_n 3, 1) := by decide +kernel
theorem dX9_isCalled_39 : decode cX9_isCalled 39 = .ok (.ireturn, 1) := by decide +kernel
theorem dX9_calls_0 : decode cX9_calls 0 = .ok (.iconst 0, 1) := by decide +kernel
theorem dX9_calls_1 : decode cX9_calls 1 = .ok (.istore_n 2, 1) := by decide +kernel
theorem dX9_calls_2 : decode cX9_calls 2 = .ok (.iload_n 2, 1) := by decide +kernel
theorem dX9_calls_3 : decode cX9_calls 3 = .ok (.iconst 3, 1) := by decide +kernel
theorem dX9_calls_4 : decode cX9_calls 4 = .ok (.if_icmp .ge 112, 3) := by decide +kernel
theorem dX9_calls_7 : decode cX9_calls 7 = .ok (.iconst (-1), 1) := by decide +kernel
theorem dX9_calls_8 : decode cX9_calls 8 = .ok (.istore_n 3, 1) := by decide +kernel
theorem dX9_calls_9 : decode cX9_calls 9 = .ok (.iconst 0, 1) := by decide +kernel
theorem dX9_calls_10 : decode cX9_calls 10 = .ok (.istore 4, 2) := by decide +kernel
theorem dX9_calls_12 : decode cX9_calls 12 = .ok (.iload 4, 2) := by decide +kernel
theorem dX9_calls_14 : decode cX9_calls 14 = .ok (.aload_n 0, 1) := by decide +kernel
theorem dX9_calls_15 : decode cX9_calls 15 = .ok (.getfield 7, 3) := by decide +kernel
theorem dX9_calls_18 : decode cX9_calls 18 = .ok (.bipush 8, 2) := by decide +kernel
theorem dX9_calls_20 : decode cX9_calls 20 = .ok (.iaload, 1) := by decide +kernel
theorem dX9_calls_21 : decode cX9_calls 21 = .ok (.if_icmp .ge 76, 3) := by decide +kernel
theorem dX9_calls_24 : decode cX9_calls 24 = .ok (.iload 4, 2) := by decide +kernel
theorem dX9_calls_26 : decode cX9_calls 26 = .ok (.iload_n 1, 1) := by decide +kernel
theorem dX9_calls_27 : decode cX9_calls 27 = .ok (.if_icmp .eq 27, 3) := by decide +kernel
theorem dX9_calls_30 : decode cX9_calls 30 = .ok (.aload_n 0, 1) := by decide +kernel
theorem dX9_calls_31 : decode cX9_calls 31 = .ok (.iload 4, 2) := by decide +kernel
theorem dX9_calls_33 : decode cX9_calls 33 = .ok (.iconst 0, 1) := by decide +kernel
theorem dX9_calls_34 : decode cX9_calls 34 = .ok (.invokevirtual 46, 3) := by decide +kernel
theorem dX9_calls_37 : decode cX9_calls 37 = .ok (.ifCond .ne 17, 3) := by decide +kernel
theorem dX9_calls_40 : decode cX9_calls 40 = .ok (.aload_n 0, 1) := by decide +kernel
theorem dX9_calls_41 : decode cX9_calls 41 = .ok (.iload 4, 2) := by decide +kernel
theorem dX9_calls_43 : decode cX9_calls 43 = .ok (.iload_n 2, 1) := by decide +kernel
theorem dX9_calls_44 : decode cX9_calls 44 = .ok (.invokevirtual 189, 3) := by decide +kernel
theorem dX9_calls_47 : decode cX9_calls 47 = .ok (.ifCond .ne 7, 3) := by decide +kernel
theorem dX9_calls_50 : decode cX9_calls 50 = .ok (.iconst 1, 1) := by decide +kernel
theorem dX9_calls_51 : decode cX9_calls 51 = .ok (.goto 4, 3) := by decide +kernel
theorem dX9_calls_54 : decode cX9_calls 54 = .ok (.iconst 0, 1) := by decide +kernel
theorem dX9_calls_55 : decode cX9_calls 55 = .ok (.istore 5, 2) := by decide +kernel
theorem dX9_calls_57 : decode cX9_calls 57 = .ok (.iload 5, 2) := by decide +kernel
theorem dX9_calls_59 : decode cX9_calls 59 = .ok (.ifCond .eq 30, 3) := by decide +kernel
theorem dX9_calls_62 : decode cX9_calls 62 = .ok (.iload_n 3, 1) := by decide +kernel
theorem dX9_calls_63 : decode cX9_calls 63 = .ok (.ifCond .lt 21, 3) := by decide +kernel
theorem dX9_calls_66 : decode cX9_calls 66 = .ok (.aload_n 0, 1) := by decide +kernel
theorem dX9_calls_67 : decode cX9_calls 67 = .ok (.iload 4, 2) := by decide +kernel
theorem dX9_calls_69 : decode cX9_calls 69 = .ok (.bipush 11, 2) := by decide +kernel
theorem dX9_calls_71 : decode cX9_calls 71 = .ok (.invokevirtual 46, 3) := by decide +kernel
theorem dX9_calls_74 : decode cX9_calls 74 = .ok (.aload_n 0, 1) := by decide +kernel
theorem dX9_calls_75 : decode cX9_calls 75 = .ok (.iload_n 3, 1) := by decide +kernel
theorem dX9_calls_76 : decode cX9_calls 76 = .ok (.bipush 11, 2) := by decide +kernel
theorem dX9_calls_78 : decode cX9_calls 78 = .ok (.invokevirtual 46, 3) := by decide +kernel
theorem dX9_calls_81 : decode cX9_calls 81 = .ok (.if_icmp .ge 8, 3) := by decide +kernel
theorem dX9_calls_84 : decode cX9_calls 84 = .ok (.iload 4, 2) := by decide +kernel
theorem dX9_calls_86 : decode cX9_calls 86 = .ok (.goto 4, 3) := by decide +kernel
theorem dX9_calls_89 : decode cX9_calls 89 = .ok (.iload_n 3, 1) := by decide +kernel
theorem dX9_calls_90 : decode cX9_calls 90 = .ok (.istore_n 3, 1) := by decide +kernel
theorem dX9_calls_91 : decode cX9_calls 91 = .ok (.iinc 4 1, 3) := by decide +kernel
theorem dX9_calls_94 : decode cX9_calls 94 = .ok (.goto (-82), 3) := by decide +kernel
theorem dX9_calls_97 : decode cX9_calls 97 = .ok (.iload_n 3, 1) := by decide +kernel
theorem dX9_calls_98 : decode cX9_calls 98 = .ok (.ifCond .ge 5, 3) := by decide +kernel
theorem dX9_calls_101 : decode cX9_calls 101 = .ok (.iconst 0, 1) := by decide +kernel
theorem dX9_calls_102 : decode cX9_calls 102 = .ok (.ireturn, 1) := by decide +kernel
theorem dX9_calls_103 : decode cX9_calls 103 = .ok (.aload_n 0, 1) := by decide +kernel
theorem dX9_calls_104 : decode cX9_calls 104 = .ok (.getfield 25, 3) := by decide +kernel
theorem dX9_calls_107 : decode cX9_calls 107 = .ok (.iload_n 2, 1) := by decide +kernel
theorem dX9_calls_108 : decode cX9_calls 108 = .ok (.iload_n 3, 1) := by decide +kernel
theorem dX9_calls_109 : decode cX9_calls 109 = .ok (.iastore, 1) := by decide +kernel
theorem dX9_calls_110 : decode cX9_calls 110 = .ok (.iinc 2 1, 3) := by decide +kernel
theorem dX9_calls_113 : decode cX9_calls 113 = .ok (.goto (-111), 3) := by decide +kernel
theorem dX9_calls_116 : decode cX9_calls 116 = .ok (.iconst 1, 1) := by decide +kernel
theorem dX9_calls_117 : decode cX9_calls 117 = .ok (.ireturn, 1) := by decide +kernel
theorem dX9_lose_0 : decode cX9_lose 0 = .ok (.aload_n 0, 1) := by decide +kernel
theorem dX9_lose_1 : decode cX9_lose 1 = .ok (.iload_n 1, 1) := by decide +kernel
theorem dX9_lose_2 : decode cX9_lose 2 = .ok (.invokevirtual 132, 3) := by decide +kernel
theorem dX9_lose_5 : decode cX9_lose 5 = .ok (.ifCond .ne 6, 3) := by decide +kernel
theorem dX9_lose_8 : decode cX9_lose 8 = .ok (.ldc 32, 2) := by decide +kernel
theorem dX9_lose_10 : decode cX9_lose 10 = .ok (.ireturn, 1) := by decide +kernel
theorem dX9_lose_11 : decode cX9_lose 11 = .ok (.aload_n 0, 1) := by decide +kernel
theorem dX9_lose_12 : decode cX9_lose 12 = .ok (.iload_n 1, 1) := by decide +kernel
theorem dX9_lose_13 : decode cX9_lose 13 = .ok (.iconst 3, 1) := by decide +kernel
theorem dX9_lose_14 : decode cX9_lose 14 = .ok (.invokevirtual 79, 3) := by decide +kernel
theorem dX9_lose_17 : decode cX9_lose 17 = .ok (.iconst 1, 1) := by decide +kernel
theorem dX9_lose_18 : decode cX9_lose 18 = .ok (.if_icmp .ne 16, 3) := by decide +kernel
theorem dX9_lose_21 : decode cX9_lose 21 = .ok (.aload_n 0, 1) := by decide +kernel
theorem dX9_lose_22 : decode cX9_lose 22 = .ok (.aload_n 0, 1) := by decide +kernel
theorem dX9_lose_23 : decode cX9_lose 23 = .ok (.iload_n 1, 1) := by decide +kernel
theorem dX9_lose_24 : decode cX9_lose 24 = .ok (.iconst 4, 1) := by decide +kernel
theorem dX9_lose_25 : decode cX9_lose 25 = .ok (.invokevirtual 79, 3) := by decide +kernel
theorem dX9_lose_28 : decode cX9_lose 28 = .ok (.invokevirtual 192, 3) := by decide +kernel
theorem dX9_lose_31 : decode cX9_lose 31 = .ok (.ifCond .ne 6, 3) := by decide +kernel
theorem dX9_lose_34 : decode cX9_lose 34 = .ok (.ldc 78, 2) := by decide +kernel
theorem dX9_lose_36 : decode cX9_lose 36 = .ok (.ireturn, 1) := by decide +kernel
theorem dX9_lose_37 : decode cX9_lose 37 = .ok (.aload_n 0, 1) := by decide +kernel
theorem dX9_lose_38 : decode cX9_lose 38 = .ok (.invokevirtual 67, 3) := by decide +kernel
theorem dX9_lose_41 : decode cX9_lose 41 = .ok (.aload_n 0, 1) := by decide +kernel
theorem dX9_lose_42 : decode cX9_lose 42 = .ok (.iload_n 1, 1) := by decide +kernel
theorem dX9_lose_43 : decode cX9_lose 43 = .ok (.iconst 3, 1) := by decide +kernel
theorem dX9_lose_44 : decode cX9_lose 44 = .ok (.iconst 2, 1) := by decide +kernel
theorem dX9_lose_45 : decode cX9_lose 45 = .ok (.invokevirtual 123, 3) := by decide +kernel
theorem dX9_lose_48 : decode cX9_lose 48 = .ok (.iconst 0, 1) := by decide +kernel
theorem dX9_lose_49 : decode cX9_lose 49 = .ok (.istore_n 2, 1) := by decide +kernel
theorem dX9_lose_50 : decode cX9_lose 50 = .ok (.iconst 0, 1) := by decide +kernel
theorem dX9_lose_51 : decode cX9_lose 51 = .ok (.istore_n 3, 1) := by decide +kernel
theorem dX9_lose_52 : decode cX9_lose 52 = .ok (.iload_n 3, 1) := by decide +kernel
theorem dX9_lose_53 : decode cX9_lose 53 = .ok (.aload_n 0, 1) := by decide +kernel
theorem dX9_lose_54 : decode cX9_lose 54 = .ok (.getfield 7, 3) := by decide +kernel
theorem dX9_lose_57 : decode cX9_lose 57 = .ok (.bipush 8, 2) := by decide +kernel
theorem dX9_lose_59 : decode cX9_lose 59 = .ok (.iaload, 1) := by decide +kernel
theorem dX9_lose_60 : decode cX9_lose 60 = .ok (.if_icmp .ge 49, 3) := by decide +kernel
theorem dX9_lose_63 : decode cX9_lose 63 = .ok (.aload_n 0, 1) := by decide +kernel
theorem dX9_lose_64 : decode cX9_lose 64 = .ok (.iload_n 3, 1) := by decide +kernel
theorem dX9_lose_65 : decode cX9_lose 65 = .ok (.iconst 3, 1) := by decide +kernel
theorem dX9_lose_66 : decode cX9_lose 66 = .ok (.invokevirtual 189, 3) := by decide +kernel
theorem dX9_lose_69 : decode cX9_lose 69 = .ok (.ifCond .eq 34, 3) := by decide +kernel
theorem dX9_lose_72 : decode cX9_lose 72 = .ok (.aload_n 0, 1) := by decide +kernel
theorem dX9_lose_73 : decode cX9_lose 73 = .ok (.iload_n 1, 1) := by decide +kernel
theorem dX9_lose_74 : decode cX9_lose 74 = .ok (.bipush 12, 2) := by decide +kernel
theorem dX9_lose_76 : decode cX9_lose 76 = .ok (.iload_n 2, 1) := by decide +kernel
theorem dX9_lose_77 : decode cX9_lose 77 = .ok (.iadd, 1) := by decide +kernel
theorem dX9_lose_78 : decode cX9_lose 78 = .ok (.iload_n 3, 1) := by decide +kernel
theorem dX9_lose_79 : decode cX9_lose 79 = .ok (.invokevirtual 123, 3) := by decide +kernel
theorem dX9_lose_82 : decode cX9_lose 82 = .ok (.aload_n 0, 1) := by decide +kernel
theorem dX9_lose_83 : decode cX9_lose 83 = .ok (.iload_n 1, 1) := by decide +kernel
theorem dX9_lose_84 : decode cX9_lose 84 = .ok (.bipush 15, 2) := by decide +kernel
theorem dX9_lose_86 : decode cX9_lose 86 = .ok (.iload_n 2, 1) := by decide +kernel
theorem dX9_lose_87 : decode cX9_lose 87 = .ok (.iadd, 1) := by decide +kernel
theorem dX9_lose_88 : decode cX9_lose 88 = .ok (.iconst (-1), 1) := by decide +kernel
theorem dX9_lose_89 : decode cX9_lose 89 = .ok (.invokevirtual 123, 3) := by decide +kernel
theorem dX9_lose_92 : decode cX9_lose 92 = .ok (.aload_n 0, 1) := by decide +kernel
theorem dX9_lose_93 : decode cX9_lose 93 = .ok (.iload_n 3, 1) := by decide +kernel
theorem dX9_lose_94 : decode cX9_lose 94 = .ok (.bipush 11, 2) := by decide +kernel
theorem dX9_lose_96 : decode cX9_lose 96 = .ok (.iconst 1, 1) := by decide +kernel
theorem dX9_lose_97 : decode cX9_lose 97 = .ok (.invokevirtual 42, 3) := by decide +kernel
theorem dX9_lose_100 : decode cX9_lose 100 = .ok (.iinc 2 1, 3) := by decide +kernel
theorem dX9_lose_103 : decode cX9_lose 103 = .ok (.iinc 3 1, 3) := by decide +kernel
theorem dX9_lose_106 : decode cX9_lose 106 = .ok (.goto (-54), 3) := by decide +kernel
theorem dX9_lose_109 : decode cX9_lose 109 = .ok (.aload_n 0, 1) := by decide +kernel
theorem dX9_lose_110 : decode cX9_lose 110 = .ok (.aload_n 0, 1) := by decide +kernel
theorem dX9_lose_111 : decode cX9_lose 111 = .ok (.iload_n 1, 1) := by decide +kernel
theorem dX9_lose_112 : decode cX9_lose 112 = .ok (.bipush 12, 2) := by decide +kernel
theorem dX9_lose_114 : decode cX9_lose 114 = .ok (.invokevirtual 79, 3) := by decide +kernel
theorem dX9_lose_117 : decode cX9_lose 117 = .ok (.invokevirtual 70, 3) := by decide +kernel
theorem dX9_lose_120 : decode cX9_lose 120 = .ok (.ireturn, 1) := by decide +kernel
theorem dX9_decided_0 : decode cX9_decided 0 = .ok (.aload_n 0, 1) := by decide +kernel
theorem dX9_decided_1 : decode cX9_decided 1 = .ok (.iload_n 1, 1) := by decide +kernel
theorem dX9_decided_2 : decode cX9_decided 2 = .ok (.bipush 15, 2) := by decide +kernel
theorem dX9_decided_4 : decode cX9_decided 4 = .ok (.invokevirtual 79, 3) := by decide +kernel
theorem dX9_decided_7 : decode cX9_decided 7 = .ok (.istore_n 2, 1) := by decide +kernel
theorem dX9_decided_8 : decode cX9_decided 8 = .ok (.aload_n 0, 1) := by decide +kernel
theorem dX9_decided_9 : decode cX9_decided 9 = .ok (.iload_n 1, 1) := by decide +kernel
theorem dX9_decided_10 : decode cX9_decided 10 = .ok (.bipush 16, 2) := by decide +kernel
theorem dX9_decided_12 : decode cX9_decided 12 = .ok (.invokevirtual 79, 3) := by decide +kernel
theorem dX9_decided_15 : decode cX9_decided 15 = .ok (.istore_n 3, 1) := by decide +kernel
theorem dX9_decided_16 : decode cX9_decided 16 = .ok (.aload_n 0, 1) := by decide +kernel
theorem dX9_decided_17 : decode cX9_decided 17 = .ok (.iload_n 1, 1) := by decide +kernel
theorem dX9_decided_18 : decode cX9_decided 18 = .ok (.bipush 17, 2) := by decide +kernel
theorem dX9_decided_20 : decode cX9_decided 20 = .ok (.invokevirtual 79, 3) := by decide +kernel
theorem dX9_decided_23 : decode cX9_decided 23 = .ok (.istore 4, 2) := by decide +kernel
theorem dX9_decided_25 : decode cX9_decided 25 = .ok (.iload_n 2, 1) := by decide +kernel
theorem dX9_decided_26 : decode cX9_decided 26 = .ok (.ifCond .lt 16, 3) := by decide +kernel
theorem dX9_decided_29 : decode cX9_decided 29 = .ok (.iload_n 2, 1) := by decide +kernel
theorem dX9_decided_30 : decode cX9_decided 30 = .ok (.iload_n 3, 1) := by decide +kernel
theorem dX9_decided_31 : decode cX9_decided 31 = .ok (.if_icmp .eq 9, 3) := by decide +kernel
theorem dX9_decided_34 : decode cX9_decided 34 = .ok (.iload_n 2, 1) := by decide +kernel
theorem dX9_decided_35 : decode cX9_decided 35 = .ok (.iload 4, 2) := by decide +kernel
theorem dX9_decided_37 : decode cX9_decided 37 = .ok (.if_icmp .ne 5, 3) := by decide +kernel
theorem dX9_decided_40 : decode cX9_decided 40 = .ok (.iload_n 2, 1) := by decide +kernel
theorem dX9_decided_41 : decode cX9_decided 41 = .ok (.ireturn, 1) := by decide +kernel
theorem dX9_decided_42 : decode cX9_decided 42 = .ok (.iload_n 3, 1) := by decide +kernel
theorem dX9_decided_43 : decode cX9_decided 43 = .ok (.ifCond .lt 11, 3) := by decide +kernel
theorem dX9_decided_46 : decode cX9_decided 46 = .ok (.iload_n 3, 1) := by decide +kernel
theorem dX9_decided_47 : decode cX9_decided 47 = .ok (.iload 4, 2) := by decide +kernel
theorem dX9_decided_49 : decode cX9_decided 49 = .ok (.if_icmp .ne 5, 3) := by decide +kernel
theorem dX9_decided_52 : decode cX9_decided 52 = .ok (.iload_n 3, 1) := by decide +kernel
theorem dX9_decided_53 : decode cX9_decided 53 = .ok (.ireturn, 1) := by decide +kernel
theorem dX9_decided_54 : decode cX9_decided 54 = .ok (.iload_n 2, 1) := by decide +kernel
theorem dX9_decided_55 : decode cX9_decided 55 = .ok (.ifCond .lt 16, 3) := by decide +kernel
theorem dX9_decided_58 : decode cX9_decided 58 = .ok (.iload_n 3, 1) := by decide +kernel
theorem dX9_decided_59 : decode cX9_decided 59 = .ok (.ifCond .lt 12, 3) := by decide +kernel
theorem dX9_decided_62 : decode cX9_decided 62 = .ok (.iload 4, 2) := by decide +kernel
theorem dX9_decided_64 : decode cX9_decided 64 = .ok (.ifCond .lt 7, 3) := by decide +kernel
theorem dX9_decided_67 : decode cX9_decided 67 = .ok (.iconst 2, 1) := by decide +kernel
theorem dX9_decided_68 : decode cX9_decided 68 = .ok (.goto 4, 3) := by decide +kernel
theorem dX9_decided_71 : decode cX9_decided 71 = .ok (.iconst 3, 1) := by decide +kernel
theorem dX9_decided_72 : decode cX9_decided 72 = .ok (.ireturn, 1) := by decide +kernel
theorem dX9_paysFor_0 : decode cX9_paysFor 0 = .ok (.aload_n 0, 1) := by decide +kernel
theorem dX9_paysFor_1 : decode cX9_paysFor 1 = .ok (.iload_n 1, 1) := by decide +kernel
theorem dX9_paysFor_2 : decode cX9_paysFor 2 = .ok (.iconst 4, 1) := by decide +kernel
theorem dX9_paysFor_3 : decode cX9_paysFor 3 = .ok (.invokevirtual 79, 3) := by decide +kernel
theorem dX9_paysFor_6 : decode cX9_paysFor 6 = .ok (.istore_n 3, 1) := by decide +kernel
theorem dX9_paysFor_7 : decode cX9_paysFor 7 = .ok (.aload_n 0, 1) := by decide +kernel
theorem dX9_paysFor_8 : decode cX9_paysFor 8 = .ok (.iload_n 1, 1) := by decide +kernel
theorem dX9_paysFor_9 : decode cX9_paysFor 9 = .ok (.iconst 1, 1) := by decide +kernel
theorem dX9_paysFor_10 : decode cX9_paysFor 10 = .ok (.invokevirtual 79, 3) := by decide +kernel
theorem dX9_paysFor_13 : decode cX9_paysFor 13 = .ok (.istore 4, 2) := by decide +kernel
theorem dX9_paysFor_15 : decode cX9_paysFor 15 = .ok (.iload_n 2, 1) := by decide +kernel
theorem dX9_paysFor_16 : decode cX9_paysFor 16 = .ok (.ifCond .ne 14, 3) := by decide +kernel
theorem dX9_paysFor_19 : decode cX9_paysFor 19 = .ok (.aload_n 0, 1) := by decide +kernel
theorem dX9_paysFor_20 : decode cX9_paysFor 20 = .ok (.iload_n 3, 1) := by decide +kernel
theorem dX9_paysFor_21 : decode cX9_paysFor 21 = .ok (.iload 4, 2) := by decide +kernel
theorem dX9_paysFor_23 : decode cX9_paysFor 23 = .ok (.iconst 1, 1) := by decide +kernel
theorem dX9_paysFor_24 : decode cX9_paysFor 24 = .ok (.invokevirtual 61, 3) := by decide +kernel
theorem dX9_paysFor_27 : decode cX9_paysFor 27 = .ok (.goto 42, 3) := by decide +kernel
theorem dX9_paysFor_30 : decode cX9_paysFor 30 = .ok (.iload_n 2, 1) := by decide +kernel
theorem dX9_paysFor_31 : decode cX9_paysFor 31 = .ok (.iconst 1, 1) := by decide +kernel
theorem dX9_paysFor_32 : decode cX9_paysFor 32 = .ok (.if_icmp .ne 14, 3) := by decide +kernel
theorem dX9_paysFor_35 : decode cX9_paysFor 35 = .ok (.aload_n 0, 1) := by decide +kernel
theorem dX9_paysFor_36 : decode cX9_paysFor 36 = .ok (.iload 4, 2) := by decide +kernel
theorem dX9_paysFor_38 : decode cX9_paysFor 38 = .ok (.iconst (-1), 1) := by decide +kernel
theorem dX9_paysFor_39 : decode cX9_paysFor 39 = .ok (.iconst 1, 1) := by decide +kernel
theorem dX9_paysFor_40 : decode cX9_paysFor 40 = .ok (.invokevirtual 102, 3) := by decide +kernel
theorem dX9_paysFor_43 : decode cX9_paysFor 43 = .ok (.goto 26, 3) := by decide +kernel
theorem dX9_paysFor_46 : decode cX9_paysFor 46 = .ok (.aload_n 0, 1) := by decide +kernel
theorem dX9_paysFor_47 : decode cX9_paysFor 47 = .ok (.iload_n 3, 1) := by decide +kernel
theorem dX9_paysFor_48 : decode cX9_paysFor 48 = .ok (.iload 4, 2) := by decide +kernel
theorem dX9_paysFor_50 : decode cX9_paysFor 50 = .ok (.iload 4, 2) := by decide +kernel
theorem dX9_paysFor_52 : decode cX9_paysFor 52 = .ok (.iconst 2, 1) := by decide +kernel
theorem dX9_paysFor_53 : decode cX9_paysFor 53 = .ok (.idiv, 1) := by decide +kernel
theorem dX9_paysFor_54 : decode cX9_paysFor 54 = .ok (.isub, 1) := by decide +kernel
theorem dX9_paysFor_55 : decode cX9_paysFor 55 = .ok (.iconst 1, 1) := by decide +kernel
theorem dX9_paysFor_56 : decode cX9_paysFor 56 = .ok (.invokevirtual 61, 3) := by decide +kernel
theorem dX9_paysFor_59 : decode cX9_paysFor 59 = .ok (.aload_n 0, 1) := by decide +kernel
theorem dX9_paysFor_60 : decode cX9_paysFor 60 = .ok (.iload 4, 2) := by decide +kernel
theorem dX9_paysFor_62 : decode cX9_paysFor 62 = .ok (.iconst 2, 1) := by decide +kernel
theorem dX9_paysFor_63 : decode cX9_paysFor 63 = .ok (.idiv, 1) := by decide +kernel
theorem dX9_paysFor_64 : decode cX9_paysFor 64 = .ok (.iload_n 3, 1) := by decide +kernel
theorem dX9_paysFor_65 : decode cX9_paysFor 65 = .ok (.iconst 1, 1) := by decide +kernel
theorem dX9_paysFor_66 : decode cX9_paysFor 66 = .ok (.invokevirtual 102, 3) := by decide +kernel
theorem dX9_paysFor_69 : decode cX9_paysFor 69 = .ok (.aload_n 0, 1) := by decide +kernel
theorem dX9_paysFor_70 : decode cX9_paysFor 70 = .ok (.iload_n 1, 1) := by decide +kernel
theorem dX9_paysFor_71 : decode cX9_paysFor 71 = .ok (.iconst 3, 1) := by decide +kernel
theorem dX9_paysFor_72 : decode cX9_paysFor 72 = .ok (.iconst 4, 1) := by decide +kernel
theorem dX9_paysFor_73 : decode cX9_paysFor 73 = .ok (.invokevirtual 123, 3) := by decide +kernel
theorem dX9_paysFor_76 : decode cX9_paysFor 76 = .ok (.aload_n 0, 1) := by decide +kernel
theorem dX9_paysFor_77 : decode cX9_paysFor 77 = .ok (.iload_n 1, 1) := by decide +kernel
theorem dX9_paysFor_78 : decode cX9_paysFor 78 = .ok (.bipush 18, 2) := by decide +kernel
theorem dX9_paysFor_80 : decode cX9_paysFor 80 = .ok (.iconst 0, 1) := by decide +kernel
theorem dX9_paysFor_81 : decode cX9_paysFor 81 = .ok (.invokevirtual 123, 3) := by decide +kernel
theorem dX9_paysFor_84 : decode cX9_paysFor 84 = .ok (.return_, 1) := by decide +kernel
theorem dX9_say_0 : decode cX9_say 0 = .ok (.aload_n 0, 1) := by decide +kernel
theorem dX9_say_1 : decode cX9_say 1 = .ok (.iload_n 1, 1) := by decide +kernel
theorem dX9_say_2 : decode cX9_say 2 = .ok (.invokevirtual 132, 3) := by decide +kernel
theorem dX9_say_5 : decode cX9_say 5 = .ok (.ifCond .eq 20, 3) := by decide +kernel
theorem dX9_say_8 : decode cX9_say 8 = .ok (.aload_n 0, 1) := by decide +kernel
theorem dX9_say_9 : decode cX9_say 9 = .ok (.iload_n 2, 1) := by decide +kernel
theorem dX9_say_10 : decode cX9_say 10 = .ok (.invokevirtual 74, 3) := by decide +kernel
theorem dX9_say_13 : decode cX9_say 13 = .ok (.ifCond .eq 12, 3) := by decide +kernel
theorem dX9_say_16 : decode cX9_say 16 = .ok (.iload_n 3, 1) := by decide +kernel
theorem dX9_say_17 : decode cX9_say 17 = .ok (.iconst 0, 1) := by decide +kernel
theorem dX9_say_18 : decode cX9_say 18 = .ok (.iconst 2, 1) := by decide +kernel
theorem dX9_say_19 : decode cX9_say 19 = .ok (.invokestatic 38, 3) := by decide +kernel
theorem dX9_say_22 : decode cX9_say 22 = .ok (.ifCond .ne 6, 3) := by decide +kernel
theorem dX9_say_25 : decode cX9_say 25 = .ok (.ldc 32, 2) := by decide +kernel
theorem dX9_say_27 : decode cX9_say 27 = .ok (.ireturn, 1) := by decide +kernel
theorem dX9_say_28 : decode cX9_say 28 = .ok (.aload_n 0, 1) := by decide +kernel
theorem dX9_say_29 : decode cX9_say 29 = .ok (.iload_n 1, 1) := by decide +kernel
theorem dX9_say_30 : decode cX9_say 30 = .ok (.iload_n 2, 1) := by decide +kernel
theorem dX9_say_31 : decode cX9_say 31 = .ok (.invokevirtual 82, 3) := by decide +kernel
theorem dX9_say_34 : decode cX9_say 34 = .ok (.istore 4, 2) := by decide +kernel
theorem dX9_say_36 : decode cX9_say 36 = .ok (.aload_n 0, 1) := by decide +kernel
theorem dX9_say_37 : decode cX9_say 37 = .ok (.iload_n 1, 1) := by decide +kernel
theorem dX9_say_38 : decode cX9_say 38 = .ok (.iconst 3, 1) := by decide +kernel
theorem dX9_say_39 : decode cX9_say 39 = .ok (.invokevirtual 79, 3) := by decide +kernel
theorem dX9_say_42 : decode cX9_say 42 = .ok (.iconst 2, 1) := by decide +kernel
theorem dX9_say_43 : decode cX9_say 43 = .ok (.if_icmp .ne 21, 3) := by decide +kernel
theorem dX9_say_46 : decode cX9_say 46 = .ok (.iload 4, 2) := by decide +kernel
theorem dX9_say_48 : decode cX9_say 48 = .ok (.ifCond .lt 16, 3) := by decide +kernel
theorem dX9_say_51 : decode cX9_say 51 = .ok (.aload_n 0, 1) := by decide +kernel
theorem dX9_say_52 : decode cX9_say 52 = .ok (.iload_n 1, 1) := by decide +kernel
theorem dX9_say_53 : decode cX9_say 53 = .ok (.bipush 15, 2) := by decide +kernel
theorem dX9_say_55 : decode cX9_say 55 = .ok (.iload 4, 2) := by decide +kernel
theorem dX9_say_57 : decode cX9_say 57 = .ok (.iadd, 1) := by decide +kernel
theorem dX9_say_58 : decode cX9_say 58 = .ok (.invokevirtual 79, 3) := by decide +kernel
theorem dX9_say_61 : decode cX9_say 61 = .ok (.ifCond .lt 6, 3) := by decide +kernel
theorem dX9_say_64 : decode cX9_say 64 = .ok (.ldc 78, 2) := by decide +kernel
theorem dX9_say_66 : decode cX9_say 66 = .ok (.ireturn, 1) := by decide +kernel
theorem dX9_say_67 : decode cX9_say 67 = .ok (.aload_n 0, 1) := by decide +kernel
theorem dX9_say_68 : decode cX9_say 68 = .ok (.invokevirtual 67, 3) := by decide +kernel
theorem dX9_say_71 : decode cX9_say 71 = .ok (.aload_n 0, 1) := by decide +kernel
theorem dX9_say_72 : decode cX9_say 72 = .ok (.iload_n 1, 1) := by decide +kernel
theorem dX9_say_73 : decode cX9_say 73 = .ok (.bipush 15, 2) := by decide +kernel
theorem dX9_say_75 : decode cX9_say 75 = .ok (.iload 4, 2) := by decide +kernel
theorem dX9_say_77 : decode cX9_say 77 = .ok (.iadd, 1) := by decide +kernel
theorem dX9_say_78 : decode cX9_say 78 = .ok (.iload_n 3, 1) := by decide +kernel
theorem dX9_say_79 : decode cX9_say 79 = .ok (.invokevirtual 123, 3) := by decide +kernel
theorem dX9_say_82 : decode cX9_say 82 = .ok (.aload_n 0, 1) := by decide +kernel
theorem dX9_say_83 : decode cX9_say 83 = .ok (.iload_n 1, 1) := by decide +kernel
theorem dX9_say_84 : decode cX9_say 84 = .ok (.invokevirtual 195, 3) := by decide +kernel
theorem dX9_say_87 : decode cX9_say 87 = .ok (.istore 5, 2) := by decide +kernel
theorem dX9_say_89 : decode cX9_say 89 = .ok (.iload 5, 2) := by decide +kernel
theorem dX9_say_91 : decode cX9_say 91 = .ok (.iconst 3, 1) := by decide +kernel
theorem dX9_say_92 : decode cX9_say 92 = .ok (.if_icmp .ge 10, 3) := by decide +kernel
theorem dX9_say_95 : decode cX9_say 95 = .ok (.aload_n 0, 1) := by decide +kernel
theorem dX9_say_96 : decode cX9_say 96 = .ok (.iload_n 1, 1) := by decide +kernel
theorem dX9_say_97 : decode cX9_say 97 = .ok (.iload 5, 2) := by decide +kernel
theorem dX9_say_99 : decode cX9_say 99 = .ok (.invokevirtual 198, 3) := by decide +kernel
theorem dX9_say_102 : decode cX9_say 102 = .ok (.aload_n 0, 1) := by decide +kernel
theorem dX9_say_103 : decode cX9_say 103 = .ok (.iload 5, 2) := by decide +kernel
theorem dX9_say_105 : decode cX9_say 105 = .ok (.invokevirtual 70, 3) := by decide +kernel
theorem dX9_say_108 : decode cX9_say 108 = .ok (.ireturn, 1) := by decide +kernel
theorem dX9_find_0 : decode cX9_find 0 = .ok (.aload_n 0, 1) := by decide +kernel
theorem dX9_find_1 : decode cX9_find 1 = .ok (.iload_n 1, 1) := by decide +kernel
theorem dX9_find_2 : decode cX9_find 2 = .ok (.invokevirtual 132, 3) := by decide +kernel
theorem dX9_find_5 : decode cX9_find 5 = .ok (.ifCond .ne 6, 3) := by decide +kernel
theorem dX9_find_8 : decode cX9_find 8 = .ok (.ldc 32, 2) := by decide +kernel
theorem dX9_find_10 : decode cX9_find 10 = .ok (.ireturn, 1) := by decide +kernel
theorem dX9_find_11 : decode cX9_find 11 = .ok (.aload_n 0, 1) := by decide +kernel
theorem dX9_find_12 : decode cX9_find 12 = .ok (.iload_n 1, 1) := by decide +kernel
theorem dX9_find_13 : decode cX9_find 13 = .ok (.iconst 3, 1) := by decide +kernel
theorem dX9_find_14 : decode cX9_find 14 = .ok (.invokevirtual 79, 3) := by decide +kernel
theorem dX9_find_17 : decode cX9_find 17 = .ok (.iconst 2, 1) := by decide +kernel
theorem dX9_find_18 : decode cX9_find 18 = .ok (.if_icmp .eq 6, 3) := by decide +kernel
theorem dX9_find_21 : decode cX9_find 21 = .ok (.ldc 78, 2) := by decide +kernel
theorem dX9_find_23 : decode cX9_find 23 = .ok (.ireturn, 1) := by decide +kernel
theorem dX9_find_24 : decode cX9_find 24 = .ok (.aload_n 0, 1) := by decide +kernel
theorem dX9_find_25 : decode cX9_find 25 = .ok (.invokevirtual 67, 3) := by decide +kernel
theorem dX9_find_28 : decode cX9_find 28 = .ok (.iconst 0, 1) := by decide +kernel
theorem dX9_find_29 : decode cX9_find 29 = .ok (.istore_n 2, 1) := by decide +kernel
theorem dX9_find_30 : decode cX9_find 30 = .ok (.iconst 0, 1) := by decide +kernel
theorem dX9_find_31 : decode cX9_find 31 = .ok (.istore_n 3, 1) := by decide +kernel
theorem dX9_find_32 : decode cX9_find 32 = .ok (.iload_n 3, 1) := by decide +kernel
theorem dX9_find_33 : decode cX9_find 33 = .ok (.iconst 3, 1) := by decide +kernel
theorem dX9_find_34 : decode cX9_find 34 = .ok (.if_icmp .ge 29, 3) := by decide +kernel
theorem dX9_find_37 : decode cX9_find 37 = .ok (.iload_n 2, 1) := by decide +kernel
theorem dX9_find_38 : decode cX9_find 38 = .ok (.aload_n 0, 1) := by decide +kernel
theorem dX9_find_39 : decode cX9_find 39 = .ok (.iload_n 1, 1) := by decide +kernel
theorem dX9_find_40 : decode cX9_find 40 = .ok (.bipush 15, 2) := by decide +kernel
theorem dX9_find_42 : decode cX9_find 42 = .ok (.iload_n 3, 1) := by decide +kernel
theorem dX9_find_43 : decode cX9_find 43 = .ok (.iadd, 1) := by decide +kernel
theorem dX9_find_44 : decode cX9_find 44 = .ok (.invokevirtual 79, 3) := by decide +kernel
theorem dX9_find_47 : decode cX9_find 47 = .ok (.ifCond .lt 7, 3) := by decide +kernel
theorem dX9_find_50 : decode cX9_find 50 = .ok (.iconst 1, 1) := by decide +kernel
theorem dX9_find_51 : decode cX9_find 51 = .ok (.goto 4, 3) := by decide +kernel
theorem dX9_find_54 : decode cX9_find 54 = .ok (.iconst 0, 1) := by decide +kernel
theorem dX9_find_55 : decode cX9_find 55 = .ok (.iadd, 1) := by decide +kernel
theorem dX9_find_56 : decode cX9_find 56 = .ok (.istore_n 2, 1) := by decide +kernel
theorem dX9_find_57 : decode cX9_find 57 = .ok (.iinc 3 1, 3) := by decide +kernel
theorem dX9_find_60 : decode cX9_find 60 = .ok (.goto (-28), 3) := by decide +kernel
theorem dX9_find_63 : decode cX9_find 63 = .ok (.aload_n 0, 1) := by decide +kernel
theorem dX9_find_64 : decode cX9_find 64 = .ok (.iload_n 1, 1) := by decide +kernel
theorem dX9_find_65 : decode cX9_find 65 = .ok (.iconst 3, 1) := by decide +kernel
theorem dX9_find_66 : decode cX9_find 66 = .ok (.iconst 0, 1) := by decide +kernel
theorem dX9_find_67 : decode cX9_find 67 = .ok (.invokevirtual 123, 3) := by decide +kernel
theorem dX9_find_70 : decode cX9_find 70 = .ok (.aload_n 0, 1) := by decide +kernel
theorem dX9_find_71 : decode cX9_find 71 = .ok (.iload_n 2, 1) := by decide +kernel
theorem dX9_find_72 : decode cX9_find 72 = .ok (.invokevirtual 70, 3) := by decide +kernel
theorem dX9_find_75 : decode cX9_find 75 = .ok (.ireturn, 1) := by decide +kernel
theorem dX9_panelAt_0 : decode cX9_panelAt 0 = .ok (.aload_n 0, 1) := by decide +kernel
theorem dX9_panelAt_1 : decode cX9_panelAt 1 = .ok (.iload_n 1, 1) := by decide +kernel
theorem dX9_panelAt_2 : decode cX9_panelAt 2 = .ok (.invokevirtual 132, 3) := by decide +kernel
theorem dX9_panelAt_5 : decode cX9_panelAt 5 = .ok (.ifCond .eq 21, 3) := by decide +kernel
theorem dX9_panelAt_8 : decode cX9_panelAt 8 = .ok (.iload_n 2, 1) := by decide +kernel
theorem dX9_panelAt_9 : decode cX9_panelAt 9 = .ok (.iconst 0, 1) := by decide +kernel
theorem dX9_panelAt_10 : decode cX9_panelAt 10 = .ok (.iconst 2, 1) := by decide +kernel
theorem dX9_panelAt_11 : decode cX9_panelAt 11 = .ok (.invokestatic 38, 3) := by decide +kernel
theorem dX9_panelAt_14 : decode cX9_panelAt 14 = .ok (.ifCond .eq 12, 3) := by decide +kernel
theorem dX9_panelAt_17 : decode cX9_panelAt 17 = .ok (.iload_n 3, 1) := by decide +kernel
theorem dX9_panelAt_18 : decode cX9_panelAt 18 = .ok (.iconst 0, 1) := by decide +kernel
theorem dX9_panelAt_19 : decode cX9_panelAt 19 = .ok (.iconst 1, 1) := by decide +kernel
theorem dX9_panelAt_20 : decode cX9_panelAt 20 = .ok (.invokestatic 38, 3) := by decide +kernel
theorem dX9_panelAt_23 : decode cX9_panelAt 23 = .ok (.ifCond .ne 6, 3) := by decide +kernel
theorem dX9_panelAt_26 : decode cX9_panelAt 26 = .ok (.ldc 32, 2) := by decide +kernel
theorem dX9_panelAt_28 : decode cX9_panelAt 28 = .ok (.ireturn, 1) := by decide +kernel
theorem dX9_panelAt_29 : decode cX9_panelAt 29 = .ok (.aload_n 0, 1) := by decide +kernel
theorem dX9_panelAt_30 : decode cX9_panelAt 30 = .ok (.iload_n 1, 1) := by decide +kernel
theorem dX9_panelAt_31 : decode cX9_panelAt 31 = .ok (.iload_n 3, 1) := by decide +kernel
theorem dX9_panelAt_32 : decode cX9_panelAt 32 = .ok (.ifCond .ne 8, 3) := by decide +kernel
theorem dX9_panelAt_35 : decode cX9_panelAt 35 = .ok (.bipush 12, 2) := by decide +kernel
theorem dX9_panelAt_37 : decode cX9_panelAt 37 = .ok (.goto 5, 3) := by decide +kernel
theorem dX9_panelAt_40 : decode cX9_panelAt 40 = .ok (.bipush 15, 2) := by decide +kernel
theorem dX9_panelAt_42 : decode cX9_panelAt 42 = .ok (.iload_n 2, 1) := by decide +kernel
theorem dX9_panelAt_43 : decode cX9_panelAt 43 = .ok (.iadd, 1) := by decide +kernel
theorem dX9_panelAt_44 : decode cX9_panelAt 44 = .ok (.invokevirtual 79, 3) := by decide +kernel
theorem dX9_panelAt_47 : decode cX9_panelAt 47 = .ok (.istore 4, 2) := by decide +kernel
theorem dX9_panelAt_49 : decode cX9_panelAt 49 = .ok (.aload_n 0, 1) := by decide +kernel
theorem dX9_panelAt_50 : decode cX9_panelAt 50 = .ok (.iload_n 1, 1) := by decide +kernel
theorem dX9_panelAt_51 : decode cX9_panelAt 51 = .ok (.iconst 3, 1) := by decide +kernel
theorem dX9_panelAt_52 : decode cX9_panelAt 52 = .ok (.invokevirtual 79, 3) := by decide +kernel
theorem dX9_panelAt_55 : decode cX9_panelAt 55 = .ok (.iconst 2, 1) := by decide +kernel
theorem dX9_panelAt_56 : decode cX9_panelAt 56 = .ok (.if_icmp .ne 8, 3) := by decide +kernel
theorem dX9_panelAt_59 : decode cX9_panelAt 59 = .ok (.iload 4, 2) := by decide +kernel
theorem dX9_panelAt_61 : decode cX9_panelAt 61 = .ok (.ifCond .ge 8, 3) := by decide +kernel
theorem dX9_panelAt_64 : decode cX9_panelAt 64 = .ok (.ldc 33, 2) := by decide +kernel
theorem dX9_panelAt_66 : decode cX9_panelAt 66 = .ok (.goto 5, 3) := by decide +kernel
theorem dX9_panelAt_69 : decode cX9_panelAt 69 = .ok (.iload 4, 2) := by decide +kernel
theorem dX9_panelAt_71 : decode cX9_panelAt 71 = .ok (.ireturn, 1) := by decide +kernel
theorem dX9_propose_0 : decode cX9_propose 0 = .ok (.aload_n 0, 1) := by decide +kernel
theorem dX9_propose_1 : decode cX9_propose 1 = .ok (.iload_n 1, 1) := by decide +kernel
theorem dX9_propose_2 : decode cX9_propose 2 = .ok (.invokevirtual 132, 3) := by decide +kernel
theorem dX9_propose_5 : decode cX9_propose 5 = .ok (.ifCond .eq 28, 3) := by decide +kernel
theorem dX9_propose_8 : decode cX9_propose 8 = .ok (.iload_n 2, 1) := by decide +kernel
theorem dX9_propose_9 : decode cX9_propose 9 = .ok (.iconst 1, 1) := by decide +kernel
theorem dX9_propose_10 : decode cX9_propose 10 = .ok (.sipush 400, 3) := by decide +kernel
theorem dX9_propose_13 : decode cX9_propose 13 = .ok (.invokestatic 38, 3) := by decide +kernel
theorem dX9_propose_16 : decode cX9_propose 16 = .ok (.ifCond .eq 17, 3) := by decide +kernel
theorem dX9_propose_19 : decode cX9_propose 19 = .ok (.iload_n 3, 1) := by decide +kernel
theorem dX9_propose_20 : decode cX9_propose 20 = .ok (.iconst 1, 1) := by decide +kernel
theorem dX9_propose_21 : decode cX9_propose 21 = .ok (.aload_n 0, 1) := by decide +kernel
theorem dX9_propose_22 : decode cX9_propose 22 = .ok (.iload_n 1, 1) := by decide +kernel
theorem dX9_propose_23 : decode cX9_propose 23 = .ok (.iconst 2, 1) := by decide +kernel
theorem dX9_propose_24 : decode cX9_propose 24 = .ok (.invokevirtual 79, 3) := by decide +kernel
theorem dX9_propose_27 : decode cX9_propose 27 = .ok (.invokestatic 38, 3) := by decide +kernel
theorem dX9_propose_30 : decode cX9_propose 30 = .ok (.ifCond .ne 6, 3) := by decide +kernel
theorem dX9_propose_33 : decode cX9_propose 33 = .ok (.ldc 32, 2) := by decide +kernel
theorem dX9_propose_35 : decode cX9_propose 35 = .ok (.ireturn, 1) := by decide +kernel
theorem dX9_propose_36 : decode cX9_propose 36 = .ok (.aload_n 0, 1) := by decide +kernel
theorem dX9_propose_37 : decode cX9_propose 37 = .ok (.iload_n 1, 1) := by decide +kernel
theorem dX9_propose_38 : decode cX9_propose 38 = .ok (.iconst 3, 1) := by decide +kernel
theorem dX9_propose_39 : decode cX9_propose 39 = .ok (.invokevirtual 79, 3) := by decide +kernel
theorem dX9_propose_42 : decode cX9_propose 42 = .ok (.iconst 4, 1) := by decide +kernel
theorem dX9_propose_43 : decode cX9_propose 43 = .ok (.if_icmp .eq 21, 3) := by decide +kernel
theorem dX9_propose_46 : decode cX9_propose 46 = .ok (.aload_n 0, 1) := by decide +kernel
theorem dX9_propose_47 : decode cX9_propose 47 = .ok (.iload_n 1, 1) := by decide +kernel
theorem dX9_propose_48 : decode cX9_propose 48 = .ok (.bipush 18, 2) := by decide +kernel
theorem dX9_propose_50 : decode cX9_propose 50 = .ok (.invokevirtual 79, 3) := by decide +kernel
theorem dX9_propose_53 : decode cX9_propose 53 = .ok (.ifCond .gt 11, 3) := by decide +kernel
theorem dX9_propose_56 : decode cX9_propose 56 = .ok (.aload_n 0, 1) := by decide +kernel
theorem dX9_propose_57 : decode cX9_propose 57 = .ok (.iconst (-1), 1) := by decide +kernel
theorem dX9_propose_58 : decode cX9_propose 58 = .ok (.invokevirtual 54, 3) := by decide +kernel
theorem dX9_propose_61 : decode cX9_propose 61 = .ok (.ifCond .ne 6, 3) := by decide +kernel
theorem dX9_propose_64 : decode cX9_propose 64 = .ok (.ldc 78, 2) := by decide +kernel
theorem dX9_propose_66 : decode cX9_propose 66 = .ok (.ireturn, 1) := by decide +kernel
theorem dX9_propose_67 : decode cX9_propose 67 = .ok (.aload_n 0, 1) := by decide +kernel
theorem dX9_propose_68 : decode cX9_propose 68 = .ok (.invokevirtual 67, 3) := by decide +kernel
theorem dX9_propose_71 : decode cX9_propose 71 = .ok (.aload_n 0, 1) := by decide +kernel
theorem dX9_propose_72 : decode cX9_propose 72 = .ok (.iload_n 1, 1) := by decide +kernel
theorem dX9_propose_73 : decode cX9_propose 73 = .ok (.bipush 18, 2) := by decide +kernel
theorem dX9_propose_75 : decode cX9_propose 75 = .ok (.iload_n 2, 1) := by decide +kernel
theorem dX9_propose_76 : decode cX9_propose 76 = .ok (.invokevirtual 123, 3) := by decide +kernel
theorem dX9_propose_79 : decode cX9_propose 79 = .ok (.aload_n 0, 1) := by decide +kernel
theorem dX9_propose_80 : decode cX9_propose 80 = .ok (.iload_n 1, 1) := by decide +kernel
theorem dX9_propose_81 : decode cX9_propose 81 = .ok (.bipush 19, 2) := by decide +kernel
theorem dX9_propose_83 : decode cX9_propose 83 = .ok (.iload_n 3, 1) := by decide +kernel
theorem dX9_propose_84 : decode cX9_propose 84 = .ok (.invokevirtual 123, 3) := by decide +kernel
theorem dX9_propose_87 : decode cX9_propose 87 = .ok (.aload_n 0, 1) := by decide +kernel
theorem dX9_propose_88 : decode cX9_propose 88 = .ok (.iload_n 1, 1) := by decide +kernel
theorem dX9_propose_89 : decode cX9_propose 89 = .ok (.bipush 20, 2) := by decide +kernel
theorem dX9_propose_91 : decode cX9_propose 91 = .ok (.aload_n 0, 1) := by decide +kernel
theorem dX9_propose_92 : decode cX9_propose 92 = .ok (.getfield 7, 3) := by decide +kernel
theorem dX9_propose_95 : decode cX9_propose 95 = .ok (.bipush 7, 2) := by decide +kernel
theorem dX9_propose_97 : decode cX9_propose 97 = .ok (.iaload, 1) := by decide +kernel
theorem dX9_propose_98 : decode cX9_propose 98 = .ok (.aload_n 0, 1) := by decide +kernel
theorem dX9_propose_99 : decode cX9_propose 99 = .ok (.getfield 7, 3) := by decide +kernel
theorem dX9_propose_102 : decode cX9_propose 102 = .ok (.bipush 6, 2) := by decide +kernel
theorem dX9_propose_104 : decode cX9_propose 104 = .ok (.iaload, 1) := by decide +kernel
theorem dX9_propose_105 : decode cX9_propose 105 = .ok (.iadd, 1) := by decide +kernel
theorem dX9_propose_106 : decode cX9_propose 106 = .ok (.invokevirtual 123, 3) := by decide +kernel
theorem dX9_propose_109 : decode cX9_propose 109 = .ok (.aload_n 0, 1) := by decide +kernel
theorem dX9_propose_110 : decode cX9_propose 110 = .ok (.iload_n 1, 1) := by decide +kernel
theorem dX9_propose_111 : decode cX9_propose 111 = .ok (.bipush 21, 2) := by decide +kernel
theorem dX9_propose_113 : decode cX9_propose 113 = .ok (.iconst 0, 1) := by decide +kernel
theorem dX9_propose_114 : decode cX9_propose 114 = .ok (.invokevirtual 123, 3) := by decide +kernel
theorem dX9_propose_117 : decode cX9_propose 117 = .ok (.aload_n 0, 1) := by decide +kernel
theorem dX9_propose_118 : decode cX9_propose 118 = .ok (.iload_n 1, 1) := by decide +kernel
theorem dX9_propose_119 : decode cX9_propose 119 = .ok (.bipush 22, 2) := by decide +kernel
theorem dX9_propose_121 : decode cX9_propose 121 = .ok (.iconst 0, 1) := by decide +kernel
theorem dX9_propose_122 : decode cX9_propose 122 = .ok (.invokevirtual 123, 3) := by decide +kernel
theorem dX9_propose_125 : decode cX9_propose 125 = .ok (.aload_n 0, 1) := by decide +kernel
theorem dX9_propose_126 : decode cX9_propose 126 = .ok (.aload_n 0, 1) := by decide +kernel
theorem dX9_propose_127 : decode cX9_propose 127 = .ok (.iload_n 1, 1) := by decide +kernel
theorem dX9_propose_128 : decode cX9_propose 128 = .ok (.bipush 20, 2) := by decide +kernel
theorem dX9_propose_130 : decode cX9_propose 130 = .ok (.invokevirtual 79, 3) := by decide +kernel
theorem dX9_propose_133 : decode cX9_propose 133 = .ok (.invokevirtual 70, 3) := by decide +kernel
theorem dX9_propose_136 : decode cX9_propose 136 = .ok (.ireturn, 1) := by decide +kernel
theorem dX9_bitsIn_0 : decode cX9_bitsIn 0 = .ok (.iconst 0, 1) := by decide +kernel
theorem dX9_bitsIn_1 : decode cX9_bitsIn 1 = .ok (.istore_n 1, 1) := by decide +kernel
theorem dX9_bitsIn_2 : decode cX9_bitsIn 2 = .ok (.iconst 0, 1) := by decide +kernel
theorem dX9_bitsIn_3 : decode cX9_bitsIn 3 = .ok (.istore_n 2, 1) := by decide +kernel
theorem dX9_bitsIn_4 : decode cX9_bitsIn 4 = .ok (.iload_n 2, 1) := by decide +kernel
theorem dX9_bitsIn_5 : decode cX9_bitsIn 5 = .ok (.bipush 10, 2) := by decide +kernel
theorem dX9_bitsIn_7 : decode cX9_bitsIn 7 = .ok (.if_icmp .ge 17, 3) := by decide +kernel
theorem dX9_bitsIn_10 : decode cX9_bitsIn 10 = .ok (.iload_n 1, 1) := by decide +kernel
theorem dX9_bitsIn_11 : decode cX9_bitsIn 11 = .ok (.iload_n 0, 1) := by decide +kernel
theorem dX9_bitsIn_12 : decode cX9_bitsIn 12 = .ok (.iload_n 2, 1) := by decide +kernel
theorem dX9_bitsIn_13 : decode cX9_bitsIn 13 = .ok (.ishr, 1) := by decide +kernel
theorem dX9_bitsIn_14 : decode cX9_bitsIn 14 = .ok (.iconst 1, 1) := by decide +kernel
theorem dX9_bitsIn_15 : decode cX9_bitsIn 15 = .ok (.iand, 1) := by decide +kernel
theorem dX9_bitsIn_16 : decode cX9_bitsIn 16 = .ok (.iadd, 1) := by decide +kernel
theorem dX9_bitsIn_17 : decode cX9_bitsIn 17 = .ok (.istore_n 1, 1) := by decide +kernel
theorem dX9_bitsIn_18 : decode cX9_bitsIn 18 = .ok (.iinc 2 1, 3) := by decide +kernel
theorem dX9_bitsIn_21 : decode cX9_bitsIn 21 = .ok (.goto (-17), 3) := by decide +kernel
theorem dX9_bitsIn_24 : decode cX9_bitsIn 24 = .ok (.iload_n 1, 1) := by decide +kernel
theorem dX9_bitsIn_25 : decode cX9_bitsIn 25 = .ok (.ireturn, 1) := by decide +kernel
theorem dX9_counted_0 : decode cX9_counted 0 = .ok (.aload_n 0, 1) := by decide +kernel
theorem dX9_counted_1 : decode cX9_counted 1 = .ok (.iconst (-1), 1) := by decide +kernel
theorem dX9_counted_2 : decode cX9_counted 2 = .ok (.invokevirtual 54, 3) := by decide +kernel
theorem dX9_counted_5 : decode cX9_counted 5 = .ok (.istore_n 2, 1) := by decide +kernel
theorem dX9_counted_6 : decode cX9_counted 6 = .ok (.iconst 2, 1) := by decide +kernel
theorem dX9_counted_7 : decode cX9_counted 7 = .ok (.aload_n 0, 1) := by decide +kernel
theorem dX9_counted_8 : decode cX9_counted 8 = .ok (.iload_n 1, 1) := by decide +kernel
theorem dX9_counted_9 : decode cX9_counted 9 = .ok (.bipush 21, 2) := by decide +kernel
theorem dX9_counted_11 : decode cX9_counted 11 = .ok (.invokevirtual 79, 3) := by decide +kernel
theorem dX9_counted_14 : decode cX9_counted 14 = .ok (.invokestatic 201, 3) := by decide +kernel
theorem dX9_counted_17 : decode cX9_counted 17 = .ok (.imul, 1) := by decide +kernel
theorem dX9_counted_18 : decode cX9_counted 18 = .ok (.iload_n 2, 1) := by decide +kernel
theorem dX9_counted_19 : decode cX9_counted 19 = .ok (.if_icmp .le 48, 3) := by decide +kernel
theorem dX9_counted_22 : decode cX9_counted 22 = .ok (.aload_n 0, 1) := by decide +kernel
theorem dX9_counted_23 : decode cX9_counted 23 = .ok (.iload_n 1, 1) := by decide +kernel
theorem dX9_counted_24 : decode cX9_counted 24 = .ok (.bipush 18, 2) := by decide +kernel
theorem dX9_counted_26 : decode cX9_counted 26 = .ok (.invokevirtual 79, 3) := by decide +kernel
theorem dX9_counted_29 : decode cX9_counted 29 = .ok (.istore_n 3, 1) := by decide +kernel
theorem dX9_counted_30 : decode cX9_counted 30 = .ok (.aload_n 0, 1) := by decide +kernel
theorem dX9_counted_31 : decode cX9_counted 31 = .ok (.iload_n 1, 1) := by decide +kernel
theorem dX9_counted_32 : decode cX9_counted 32 = .ok (.bipush 18, 2) := by decide +kernel
theorem dX9_counted_34 : decode cX9_counted 34 = .ok (.iconst 0, 1) := by decide +kernel
theorem dX9_counted_35 : decode cX9_counted 35 = .ok (.invokevirtual 123, 3) := by decide +kernel
theorem dX9_counted_38 : decode cX9_counted 38 = .ok (.aload_n 0, 1) := by decide +kernel
theorem dX9_counted_39 : decode cX9_counted 39 = .ok (.iload_n 1, 1) := by decide +kernel
theorem dX9_counted_40 : decode cX9_counted 40 = .ok (.iconst 2, 1) := by decide +kernel
theorem dX9_counted_41 : decode cX9_counted 41 = .ok (.aload_n 0, 1) := by decide +kernel
theorem dX9_counted_42 : decode cX9_counted 42 = .ok (.iload_n 1, 1) := by decide +kernel
theorem dX9_counted_43 : decode cX9_counted 43 = .ok (.iconst 2, 1) := by decide +kernel
theorem dX9_counted_44 : decode cX9_counted 44 = .ok (.invokevirtual 79, 3) := by decide +kernel
theorem dX9_counted_47 : decode cX9_counted 47 = .ok (.aload_n 0, 1) := by decide +kernel
theorem dX9_counted_48 : decode cX9_counted 48 = .ok (.iload_n 1, 1) := by decide +kernel
theorem dX9_counted_49 : decode cX9_counted 49 = .ok (.bipush 19, 2) := by decide +kernel
theorem dX9_counted_51 : decode cX9_counted 51 = .ok (.invokevirtual 79, 3) := by decide +kernel
theorem dX9_counted_54 : decode cX9_counted 54 = .ok (.isub, 1) := by decide +kernel
theorem dX9_counted_55 : decode cX9_counted 55 = .ok (.invokevirtual 123, 3) := by decide +kernel
theorem dX9_counted_58 : decode cX9_counted 58 = .ok (.aload_n 0, 1) := by decide +kernel
theorem dX9_counted_59 : decode cX9_counted 59 = .ok (.iload_n 3, 1) := by decide +kernel
theorem dX9_counted_60 : decode cX9_counted 60 = .ok (.iconst (-1), 1) := by decide +kernel
theorem dX9_counted_61 : decode cX9_counted 61 = .ok (.iconst 2, 1) := by decide +kernel
theorem dX9_counted_62 : decode cX9_counted 62 = .ok (.invokevirtual 102, 3) := by decide +kernel
theorem dX9_counted_65 : decode cX9_counted 65 = .ok (.iconst 1, 1) := by decide +kernel
theorem dX9_counted_66 : decode cX9_counted 66 = .ok (.ireturn, 1) := by decide +kernel
theorem dX9_counted_67 : decode cX9_counted 67 = .ok (.iconst 2, 1) := by decide +kernel
theorem dX9_counted_68 : decode cX9_counted 68 = .ok (.aload_n 0, 1) := by decide +kernel
theorem dX9_counted_69 : decode cX9_counted 69 = .ok (.iload_n 1, 1) := by decide +kernel
theorem dX9_counted_70 : decode cX9_counted 70 = .ok (.bipush 22, 2) := by decide +kernel
theorem dX9_counted_72 : decode cX9_counted 72 = .ok (.invokevirtual 79, 3) := by decide +kernel
theorem dX9_counted_75 : decode cX9_counted 75 = .ok (.invokestatic 201, 3) := by decide +kernel
theorem dX9_counted_78 : decode cX9_counted 78 = .ok (.imul, 1) := by decide +kernel
theorem dX9_counted_79 : decode cX9_counted 79 = .ok (.iload_n 2, 1) := by decide +kernel
theorem dX9_counted_80 : decode cX9_counted 80 = .ok (.if_icmp .lt 13, 3) := by decide +kernel
theorem dX9_counted_83 : decode cX9_counted 83 = .ok (.aload_n 0, 1) := by decide +kernel
theorem dX9_counted_84 : decode cX9_counted 84 = .ok (.iload_n 1, 1) := by decide +kernel
theorem dX9_counted_85 : decode cX9_counted 85 = .ok (.bipush 18, 2) := by decide +kernel
theorem dX9_counted_87 : decode cX9_counted 87 = .ok (.iconst 0, 1) := by decide +kernel
theorem dX9_counted_88 : decode cX9_counted 88 = .ok (.invokevirtual 123, 3) := by decide +kernel
theorem dX9_counted_91 : decode cX9_counted 91 = .ok (.iconst 0, 1) := by decide +kernel
theorem dX9_counted_92 : decode cX9_counted 92 = .ok (.ireturn, 1) := by decide +kernel
theorem dX9_counted_93 : decode cX9_counted 93 = .ok (.iconst 2, 1) := by decide +kernel
theorem dX9_counted_94 : decode cX9_counted 94 = .ok (.ireturn, 1) := by decide +kernel
theorem dX9_vote_0 : decode cX9_vote 0 = .ok (.aload_n 0, 1) := by decide +kernel
theorem dX9_vote_1 : decode cX9_vote 1 = .ok (.iload_n 1, 1) := by decide +kernel
theorem dX9_vote_2 : decode cX9_vote 2 = .ok (.invokevirtual 132, 3) := by decide +kernel
theorem dX9_vote_5 : decode cX9_vote 5 = .ok (.ifCond .eq 20, 3) := by decide +kernel
theorem dX9_vote_8 : decode cX9_vote 8 = .ok (.aload_n 0, 1) := by decide +kernel
theorem dX9_vote_9 : decode cX9_vote 9 = .ok (.iload_n 2, 1) := by decide +kernel
theorem dX9_vote_10 : decode cX9_vote 10 = .ok (.invokevirtual 74, 3) := by decide +kernel
theorem dX9_vote_13 : decode cX9_vote 13 = .ok (.ifCond .eq 12, 3) := by decide +kernel
theorem dX9_vote_16 : decode cX9_vote 16 = .ok (.iload_n 3, 1) := by decide +kernel
theorem dX9_vote_17 : decode cX9_vote 17 = .ok (.iconst 0, 1) := by decide +kernel
theorem dX9_vote_18 : decode cX9_vote 18 = .ok (.iconst 1, 1) := by decide +kernel
theorem dX9_vote_19 : decode cX9_vote 19 = .ok (.invokestatic 38, 3) := by decide +kernel
theorem dX9_vote_22 : decode cX9_vote 22 = .ok (.ifCond .ne 6, 3) := by decide +kernel
theorem dX9_vote_25 : decode cX9_vote 25 = .ok (.ldc 32, 2) := by decide +kernel
theorem dX9_vote_27 : decode cX9_vote 27 = .ok (.ireturn, 1) := by decide +kernel
theorem dX9_vote_28 : decode cX9_vote 28 = .ok (.aload_n 0, 1) := by decide +kernel
theorem dX9_vote_29 : decode cX9_vote 29 = .ok (.iload_n 1, 1) := by decide +kernel
theorem dX9_vote_30 : decode cX9_vote 30 = .ok (.bipush 18, 2) := by decide +kernel
theorem dX9_vote_32 : decode cX9_vote 32 = .ok (.invokevirtual 79, 3) := by decide +kernel
theorem dX9_vote_35 : decode cX9_vote 35 = .ok (.ifCond .eq 36, 3) := by decide +kernel
theorem dX9_vote_38 : decode cX9_vote 38 = .ok (.aload_n 0, 1) := by decide +kernel
theorem dX9_vote_39 : decode cX9_vote 39 = .ok (.iload_n 2, 1) := by decide +kernel
theorem dX9_vote_40 : decode cX9_vote 40 = .ok (.iconst 0, 1) := by decide +kernel
theorem dX9_vote_41 : decode cX9_vote 41 = .ok (.invokevirtual 46, 3) := by decide +kernel
theorem dX9_vote_44 : decode cX9_vote 44 = .ok (.iconst 2, 1) := by decide +kernel
theorem dX9_vote_45 : decode cX9_vote 45 = .ok (.if_icmp .eq 26, 3) := by decide +kernel
theorem dX9_vote_48 : decode cX9_vote 48 = .ok (.aload_n 0, 1) := by decide +kernel
theorem dX9_vote_49 : decode cX9_vote 49 = .ok (.iload_n 1, 1) := by decide +kernel
theorem dX9_vote_50 : decode cX9_vote 50 = .ok (.bipush 21, 2) := by decide +kernel
theorem dX9_vote_52 : decode cX9_vote 52 = .ok (.invokevirtual 79, 3) := by decide +kernel
theorem dX9_vote_55 : decode cX9_vote 55 = .ok (.aload_n 0, 1) := by decide +kernel
theorem dX9_vote_56 : decode cX9_vote 56 = .ok (.iload_n 1, 1) := by decide +kernel
theorem dX9_vote_57 : decode cX9_vote 57 = .ok (.bipush 22, 2) := by decide +kernel
theorem dX9_vote_59 : decode cX9_vote 59 = .ok (.invokevirtual 79, 3) := by decide +kernel
theorem dX9_vote_62 : decode cX9_vote 62 = .ok (.ior, 1) := by decide +kernel
theorem dX9_vote_63 : decode cX9_vote 63 = .ok (.iload_n 2, 1) := by decide +kernel
theorem dX9_vote_64 : decode cX9_vote 64 = .ok (.ishr, 1) := by decide +kernel
theorem dX9_vote_65 : decode cX9_vote 65 = .ok (.iconst 1, 1) := by decide +kernel
theorem dX9_vote_66 : decode cX9_vote 66 = .ok (.iand, 1) := by decide +kernel
theorem dX9_vote_67 : decode cX9_vote 67 = .ok (.iconst 1, 1) := by decide +kernel
theorem dX9_vote_68 : decode cX9_vote 68 = .ok (.if_icmp .ne 6, 3) := by decide +kernel
theorem dX9_vote_71 : decode cX9_vote 71 = .ok (.ldc 78, 2) := by decide +kernel
theorem dX9_vote_73 : decode cX9_vote 73 = .ok (.ireturn, 1) := by decide +kernel
theorem dX9_vote_74 : decode cX9_vote 74 = .ok (.aload_n 0, 1) := by decide +kernel
theorem dX9_vote_75 : decode cX9_vote 75 = .ok (.invokevirtual 67, 3) := by decide +kernel
theorem dX9_vote_78 : decode cX9_vote 78 = .ok (.iload_n 3, 1) := by decide +kernel
theorem dX9_vote_79 : decode cX9_vote 79 = .ok (.iconst 1, 1) := by decide +kernel
theorem dX9_vote_80 : decode cX9_vote 80 = .ok (.if_icmp .ne 8, 3) := by decide +kernel
theorem dX9_vote_83 : decode cX9_vote 83 = .ok (.bipush 21, 2) := by decide +kernel
theorem dX9_vote_85 : decode cX9_vote 85 = .ok (.goto 5, 3) := by decide +kernel
theorem dX9_vote_88 : decode cX9_vote 88 = .ok (.bipush 22, 2) := by decide +kernel
theorem dX9_vote_90 : decode cX9_vote 90 = .ok (.istore 4, 2) := by decide +kernel
theorem dX9_vote_92 : decode cX9_vote 92 = .ok (.aload_n 0, 1) := by decide +kernel
theorem dX9_vote_93 : decode cX9_vote 93 = .ok (.iload_n 1, 1) := by decide +kernel
theorem dX9_vote_94 : decode cX9_vote 94 = .ok (.iload 4, 2) := by decide +kernel
theorem dX9_vote_96 : decode cX9_vote 96 = .ok (.aload_n 0, 1) := by decide +kernel
theorem dX9_vote_97 : decode cX9_vote 97 = .ok (.iload_n 1, 1) := by decide +kernel
theorem dX9_vote_98 : decode cX9_vote 98 = .ok (.iload 4, 2) := by decide +kernel
theorem dX9_vote_100 : decode cX9_vote 100 = .ok (.invokevirtual 79, 3) := by decide +kernel
theorem dX9_vote_103 : decode cX9_vote 103 = .ok (.iconst 1, 1) := by decide +kernel
theorem dX9_vote_104 : decode cX9_vote 104 = .ok (.iload_n 2, 1) := by decide +kernel
theorem dX9_vote_105 : decode cX9_vote 105 = .ok (.ishl, 1) := by decide +kernel
theorem dX9_vote_106 : decode cX9_vote 106 = .ok (.ior, 1) := by decide +kernel
theorem dX9_vote_107 : decode cX9_vote 107 = .ok (.invokevirtual 123, 3) := by decide +kernel
theorem dX9_vote_110 : decode cX9_vote 110 = .ok (.aload_n 0, 1) := by decide +kernel
theorem dX9_vote_111 : decode cX9_vote 111 = .ok (.aload_n 0, 1) := by decide +kernel
theorem dX9_vote_112 : decode cX9_vote 112 = .ok (.iload_n 1, 1) := by decide +kernel
theorem dX9_vote_113 : decode cX9_vote 113 = .ok (.invokevirtual 204, 3) := by decide +kernel
theorem dX9_vote_116 : decode cX9_vote 116 = .ok (.invokevirtual 70, 3) := by decide +kernel
theorem dX9_vote_119 : decode cX9_vote 119 = .ok (.ireturn, 1) := by decide +kernel
theorem dX9_proposalOf_0 : decode cX9_proposalOf 0 = .ok (.aload_n 0, 1) := by decide +kernel
theorem dX9_proposalOf_1 : decode cX9_proposalOf 1 = .ok (.iload_n 1, 1) := by decide +kernel
theorem dX9_proposalOf_2 : decode cX9_proposalOf 2 = .ok (.invokevirtual 132, 3) := by decide +kernel
theorem dX9_proposalOf_5 : decode cX9_proposalOf 5 = .ok (.ifCond .eq 12, 3) := by decide +kernel
theorem dX9_proposalOf_8 : decode cX9_proposalOf 8 = .ok (.iload_n 2, 1) := by decide +kernel
theorem dX9_proposalOf_9 : decode cX9_proposalOf 9 = .ok (.iconst 0, 1) := by decide +kernel
theorem dX9_proposalOf_10 : decode cX9_proposalOf 10 = .ok (.iconst 4, 1) := by decide +kernel
theorem dX9_proposalOf_11 : decode cX9_proposalOf 11 = .ok (.invokestatic 38, 3) := by decide +kernel
theorem dX9_proposalOf_14 : decode cX9_proposalOf 14 = .ok (.ifCond .ne 6, 3) := by decide +kernel
theorem dX9_proposalOf_17 : decode cX9_proposalOf 17 = .ok (.ldc 32, 2) := by decide +kernel
theorem dX9_proposalOf_19 : decode cX9_proposalOf 19 = .ok (.ireturn, 1) := by decide +kernel
theorem dX9_proposalOf_20 : decode cX9_proposalOf 20 = .ok (.aload_n 0, 1) := by decide +kernel
theorem dX9_proposalOf_21 : decode cX9_proposalOf 21 = .ok (.iload_n 1, 1) := by decide +kernel
theorem dX9_proposalOf_22 : decode cX9_proposalOf 22 = .ok (.bipush 18, 2) := by decide +kernel
theorem dX9_proposalOf_24 : decode cX9_proposalOf 24 = .ok (.iload_n 2, 1) := by decide +kernel
theorem dX9_proposalOf_25 : decode cX9_proposalOf 25 = .ok (.iadd, 1) := by decide +kernel
theorem dX9_proposalOf_26 : decode cX9_proposalOf 26 = .ok (.invokevirtual 79, 3) := by decide +kernel
theorem dX9_proposalOf_29 : decode cX9_proposalOf 29 = .ok (.istore_n 3, 1) := by decide +kernel
theorem dX9_proposalOf_30 : decode cX9_proposalOf 30 = .ok (.aload_n 0, 1) := by decide +kernel
theorem dX9_proposalOf_31 : decode cX9_proposalOf 31 = .ok (.iload_n 1, 1) := by decide +kernel
theorem dX9_proposalOf_32 : decode cX9_proposalOf 32 = .ok (.bipush 18, 2) := by decide +kernel
theorem dX9_proposalOf_34 : decode cX9_proposalOf 34 = .ok (.invokevirtual 79, 3) := by decide +kernel
theorem dX9_proposalOf_37 : decode cX9_proposalOf 37 = .ok (.ifCond .ne 8, 3) := by decide +kernel
theorem dX9_proposalOf_40 : decode cX9_proposalOf 40 = .ok (.ldc 33, 2) := by decide +kernel
theorem dX9_proposalOf_42 : decode cX9_proposalOf 42 = .ok (.goto 16, 3) := by decide +kernel
theorem dX9_proposalOf_45 : decode cX9_proposalOf 45 = .ok (.iload_n 2, 1) := by decide +kernel
theorem dX9_proposalOf_46 : decode cX9_proposalOf 46 = .ok (.iconst 3, 1) := by decide +kernel
theorem dX9_proposalOf_47 : decode cX9_proposalOf 47 = .ok (.if_icmp .ge 7, 3) := by decide +kernel
theorem dX9_proposalOf_50 : decode cX9_proposalOf 50 = .ok (.iload_n 3, 1) := by decide +kernel
theorem dX9_proposalOf_51 : decode cX9_proposalOf 51 = .ok (.goto 7, 3) := by decide +kernel
theorem dX9_proposalOf_54 : decode cX9_proposalOf 54 = .ok (.iload_n 3, 1) := by decide +kernel
theorem dX9_proposalOf_55 : decode cX9_proposalOf 55 = .ok (.invokestatic 201, 3) := by decide +kernel
theorem dX9_proposalOf_58 : decode cX9_proposalOf 58 = .ok (.ireturn, 1) := by decide +kernel
theorem dX9_lendOut_0 : decode cX9_lendOut 0 = .ok (.aload_n 0, 1) := by decide +kernel
theorem dX9_lendOut_1 : decode cX9_lendOut 1 = .ok (.iload_n 1, 1) := by decide +kernel
theorem dX9_lendOut_2 : decode cX9_lendOut 2 = .ok (.invokevirtual 132, 3) := by decide +kernel
theorem dX9_lendOut_5 : decode cX9_lendOut 5 = .ok (.ifCond .eq 33, 3) := by decide +kernel
theorem dX9_lendOut_8 : decode cX9_lendOut 8 = .ok (.iload_n 2, 1) := by decide +kernel
theorem dX9_lendOut_9 : decode cX9_lendOut 9 = .ok (.iconst 0, 1) := by decide +kernel
theorem dX9_lendOut_10 : decode cX9_lendOut 10 = .ok (.iconst 3, 1) := by decide +kernel
theorem dX9_lendOut_11 : decode cX9_lendOut 11 = .ok (.invokestatic 38, 3) := by decide +kernel
theorem dX9_lendOut_14 : decode cX9_lendOut 14 = .ok (.ifCond .eq 24, 3) := by decide +kernel
theorem dX9_lendOut_17 : decode cX9_lendOut 17 = .ok (.iload_n 3, 1) := by decide +kernel
theorem dX9_lendOut_18 : decode cX9_lendOut 18 = .ok (.iconst 1, 1) := by decide +kernel
theorem dX9_lendOut_19 : decode cX9_lendOut 19 = .ok (.bipush 60, 2) := by decide +kernel
theorem dX9_lendOut_21 : decode cX9_lendOut 21 = .ok (.invokestatic 38, 3) := by decide +kernel
theorem dX9_lendOut_24 : decode cX9_lendOut 24 = .ok (.ifCond .eq 14, 3) := by decide +kernel
theorem dX9_lendOut_27 : decode cX9_lendOut 27 = .ok (.iload 4, 2) := by decide +kernel
theorem dX9_lendOut_29 : decode cX9_lendOut 29 = .ok (.iconst 0, 1) := by decide +kernel
theorem dX9_lendOut_30 : decode cX9_lendOut 30 = .ok (.bipush 40, 2) := by decide +kernel
theorem dX9_lendOut_32 : decode cX9_lendOut 32 = .ok (.invokestatic 38, 3) := by decide +kernel
theorem dX9_lendOut_35 : decode cX9_lendOut 35 = .ok (.ifCond .ne 6, 3) := by decide +kernel
theorem dX9_lendOut_38 : decode cX9_lendOut 38 = .ok (.ldc 32, 2) := by decide +kernel
theorem dX9_lendOut_40 : decode cX9_lendOut 40 = .ok (.ireturn, 1) := by decide +kernel
theorem dX9_lendOut_41 : decode cX9_lendOut 41 = .ok (.aload_n 0, 1) := by decide +kernel
theorem dX9_lendOut_42 : decode cX9_lendOut 42 = .ok (.iload_n 1, 1) := by decide +kernel
theorem dX9_lendOut_43 : decode cX9_lendOut 43 = .ok (.iconst 3, 1) := by decide +kernel
theorem dX9_lendOut_44 : decode cX9_lendOut 44 = .ok (.invokevirtual 79, 3) := by decide +kernel
theorem dX9_lendOut_47 : decode cX9_lendOut 47 = .ok (.ifCond .eq 6, 3) := by decide +kernel
theorem dX9_lendOut_50 : decode cX9_lendOut 50 = .ok (.ldc 78, 2) := by decide +kernel
theorem dX9_lendOut_52 : decode cX9_lendOut 52 = .ok (.ireturn, 1) := by decide +kernel
theorem dX9_lendOut_53 : decode cX9_lendOut 53 = .ok (.aload_n 0, 1) := by decide +kernel
theorem dX9_lendOut_54 : decode cX9_lendOut 54 = .ok (.invokevirtual 67, 3) := by decide +kernel
theorem dX9_lendOut_57 : decode cX9_lendOut 57 = .ok (.aload_n 0, 1) := by decide +kernel
theorem dX9_lendOut_58 : decode cX9_lendOut 58 = .ok (.iload_n 1, 1) := by decide +kernel
theorem dX9_lendOut_59 : decode cX9_lendOut 59 = .ok (.iconst 3, 1) := by decide +kernel
theorem dX9_lendOut_60 : decode cX9_lendOut 60 = .ok (.iload_n 2, 1) := by decide +kernel
theorem dX9_lendOut_61 : decode cX9_lendOut 61 = .ok (.aload_n 0, 1) := by decide +kernel
theorem dX9_lendOut_62 : decode cX9_lendOut 62 = .ok (.getfield 7, 3) := by decide +kernel
theorem dX9_lendOut_65 : decode cX9_lendOut 65 = .ok (.bipush 7, 2) := by decide +kernel
theorem dX9_lendOut_67 : decode cX9_lendOut 67 = .ok (.iaload, 1) := by decide +kernel
theorem dX9_lendOut_68 : decode cX9_lendOut 68 = .ok (.iload_n 3, 1) := by decide +kernel
theorem dX9_lendOut_69 : decode cX9_lendOut 69 = .ok (.iadd, 1) := by decide +kernel
theorem dX9_lendOut_70 : decode cX9_lendOut 70 = .ok (.invokevirtual 138, 3) := by decide +kernel
theorem dX9_lendOut_73 : decode cX9_lendOut 73 = .ok (.aload_n 0, 1) := by decide +kernel
theorem dX9_lendOut_74 : decode cX9_lendOut 74 = .ok (.iload_n 1, 1) := by decide +kernel
theorem dX9_lendOut_75 : decode cX9_lendOut 75 = .ok (.bipush 10, 2) := by decide +kernel
theorem dX9_lendOut_77 : decode cX9_lendOut 77 = .ok (.iload_n 3, 1) := by decide +kernel
theorem dX9_lendOut_78 : decode cX9_lendOut 78 = .ok (.invokevirtual 123, 3) := by decide +kernel
theorem dX9_lendOut_81 : decode cX9_lendOut 81 = .ok (.aload_n 0, 1) := by decide +kernel
theorem dX9_lendOut_82 : decode cX9_lendOut 82 = .ok (.iload_n 1, 1) := by decide +kernel
theorem dX9_lendOut_83 : decode cX9_lendOut 83 = .ok (.bipush 11, 2) := by decide +kernel
theorem dX9_lendOut_85 : decode cX9_lendOut 85 = .ok (.iload 4, 2) := by decide +kernel
theorem dX9_lendOut_87 : decode cX9_lendOut 87 = .ok (.invokevirtual 123, 3) := by decide +kernel
theorem dX9_lendOut_90 : decode cX9_lendOut 90 = .ok (.aload_n 0, 1) := by decide +kernel
theorem dX9_lendOut_91 : decode cX9_lendOut 91 = .ok (.aload_n 0, 1) := by decide +kernel
theorem dX9_lendOut_92 : decode cX9_lendOut 92 = .ok (.iload_n 1, 1) := by decide +kernel
theorem dX9_lendOut_93 : decode cX9_lendOut 93 = .ok (.iconst 5, 1) := by decide +kernel
theorem dX9_lendOut_94 : decode cX9_lendOut 94 = .ok (.invokevirtual 79, 3) := by decide +kernel
theorem dX9_lendOut_97 : decode cX9_lendOut 97 = .ok (.invokevirtual 70, 3) := by decide +kernel
theorem dX9_lendOut_100 : decode cX9_lendOut 100 = .ok (.ireturn, 1) := by decide +kernel
theorem dX9_comeBack_0 : decode cX9_comeBack 0 = .ok (.aload_n 0, 1) := by decide +kernel
theorem dX9_comeBack_1 : decode cX9_comeBack 1 = .ok (.iload_n 1, 1) := by decide +kernel
theorem dX9_comeBack_2 : decode cX9_comeBack 2 = .ok (.invokevirtual 132, 3) := by decide +kernel
theorem dX9_comeBack_5 : decode cX9_comeBack 5 = .ok (.ifCond .ne 6, 3) := by decide +kernel
theorem dX9_comeBack_8 : decode cX9_comeBack 8 = .ok (.ldc 32, 2) := by decide +kernel
theorem dX9_comeBack_10 : decode cX9_comeBack 10 = .ok (.ireturn, 1) := by decide +kernel
theorem dX9_comeBack_11 : decode cX9_comeBack 11 = .ok (.aload_n 0, 1) := by decide +kernel
theorem dX9_comeBack_12 : decode cX9_comeBack 12 = .ok (.iload_n 1, 1) := by decide +kernel
theorem dX9_comeBack_13 : decode cX9_comeBack 13 = .ok (.iconst 3, 1) := by decide +kernel
theorem dX9_comeBack_14 : decode cX9_comeBack 14 = .ok (.invokevirtual 79, 3) := by decide +kernel
theorem dX9_comeBack_17 : decode cX9_comeBack 17 = .ok (.iconst 3, 1) := by decide +kernel
theorem dX9_comeBack_18 : decode cX9_comeBack 18 = .ok (.if_icmp .ne 11, 3) := by decide +kernel
theorem dX9_comeBack_21 : decode cX9_comeBack 21 = .ok (.aload_n 0, 1) := by decide +kernel
theorem dX9_comeBack_22 : decode cX9_comeBack 22 = .ok (.iconst (-1), 1) := by decide +kernel
theorem dX9_comeBack_23 : decode cX9_comeBack 23 = .ok (.invokevirtual 54, 3) := by decide +kernel
theorem dX9_comeBack_26 : decode cX9_comeBack 26 = .ok (.ifCond .ne 6, 3) := by decide +kernel
theorem dX9_comeBack_29 : decode cX9_comeBack 29 = .ok (.ldc 78, 2) := by decide +kernel
theorem dX9_comeBack_31 : decode cX9_comeBack 31 = .ok (.ireturn, 1) := by decide +kernel
theorem dX9_comeBack_32 : decode cX9_comeBack 32 = .ok (.aload_n 0, 1) := by decide +kernel
theorem dX9_comeBack_33 : decode cX9_comeBack 33 = .ok (.invokevirtual 67, 3) := by decide +kernel
theorem dX9_comeBack_36 : decode cX9_comeBack 36 = .ok (.aload_n 0, 1) := by decide +kernel
theorem dX9_comeBack_37 : decode cX9_comeBack 37 = .ok (.iload_n 1, 1) := by decide +kernel
theorem dX9_comeBack_38 : decode cX9_comeBack 38 = .ok (.invokevirtual 149, 3) := by decide +kernel
theorem dX9_comeBack_41 : decode cX9_comeBack 41 = .ok (.istore_n 2, 1) := by decide +kernel
theorem dX9_comeBack_42 : decode cX9_comeBack 42 = .ok (.iload_n 2, 1) := by decide +kernel
theorem dX9_comeBack_43 : decode cX9_comeBack 43 = .ok (.aload_n 0, 1) := by decide +kernel
theorem dX9_comeBack_44 : decode cX9_comeBack 44 = .ok (.iload_n 1, 1) := by decide +kernel
theorem dX9_comeBack_45 : decode cX9_comeBack 45 = .ok (.bipush 10, 2) := by decide +kernel
theorem dX9_comeBack_47 : decode cX9_comeBack 47 = .ok (.invokevirtual 79, 3) := by decide +kernel
theorem dX9_comeBack_50 : decode cX9_comeBack 50 = .ok (.if_icmp .le 15, 3) := by decide +kernel
theorem dX9_comeBack_53 : decode cX9_comeBack 53 = .ok (.iload_n 2, 1) := by decide +kernel
theorem dX9_comeBack_54 : decode cX9_comeBack 54 = .ok (.aload_n 0, 1) := by decide +kernel
theorem dX9_comeBack_55 : decode cX9_comeBack 55 = .ok (.iload_n 1, 1) := by decide +kernel
theorem dX9_comeBack_56 : decode cX9_comeBack 56 = .ok (.bipush 10, 2) := by decide +kernel
theorem dX9_comeBack_58 : decode cX9_comeBack 58 = .ok (.invokevirtual 79, 3) := by decide +kernel
theorem dX9_comeBack_61 : decode cX9_comeBack 61 = .ok (.isub, 1) := by decide +kernel
theorem dX9_comeBack_62 : decode cX9_comeBack 62 = .ok (.goto 4, 3) := by decide +kernel
theorem dX9_comeBack_65 : decode cX9_comeBack 65 = .ok (.iconst 0, 1) := by decide +kernel
theorem dX9_comeBack_66 : decode cX9_comeBack 66 = .ok (.istore_n 3, 1) := by decide +kernel
theorem dX9_comeBack_67 : decode cX9_comeBack 67 = .ok (.aload_n 0, 1) := by decide +kernel
theorem dX9_comeBack_68 : decode cX9_comeBack 68 = .ok (.iload_n 1, 1) := by decide +kernel
theorem dX9_comeBack_69 : decode cX9_comeBack 69 = .ok (.bipush 11, 2) := by decide +kernel
theorem dX9_comeBack_71 : decode cX9_comeBack 71 = .ok (.invokevirtual 79, 3) := by decide +kernel
theorem dX9_comeBack_74 : decode cX9_comeBack 74 = .ok (.iload_n 2, 1) := by decide +kernel
theorem dX9_comeBack_75 : decode cX9_comeBack 75 = .ok (.iload_n 3, 1) := by decide +kernel
theorem dX9_comeBack_76 : decode cX9_comeBack 76 = .ok (.iadd, 1) := by decide +kernel
theorem dX9_comeBack_77 : decode cX9_comeBack 77 = .ok (.imul, 1) := by decide +kernel
theorem dX9_comeBack_78 : decode cX9_comeBack 78 = .ok (.istore 4, 2) := by decide +kernel
theorem dX9_comeBack_80 : decode cX9_comeBack 80 = .ok (.aload_n 0, 1) := by decide +kernel
theorem dX9_comeBack_81 : decode cX9_comeBack 81 = .ok (.iload_n 1, 1) := by decide +kernel
theorem dX9_comeBack_82 : decode cX9_comeBack 82 = .ok (.bipush 6, 2) := by decide +kernel
theorem dX9_comeBack_84 : decode cX9_comeBack 84 = .ok (.aload_n 0, 1) := by decide +kernel
theorem dX9_comeBack_85 : decode cX9_comeBack 85 = .ok (.iload_n 1, 1) := by decide +kernel
theorem dX9_comeBack_86 : decode cX9_comeBack 86 = .ok (.iload_n 2, 1) := by decide +kernel
theorem dX9_comeBack_87 : decode cX9_comeBack 87 = .ok (.invokevirtual 152, 3) := by decide +kernel
theorem dX9_comeBack_90 : decode cX9_comeBack 90 = .ok (.invokestatic 126, 3) := by decide +kernel
theorem dX9_comeBack_93 : decode cX9_comeBack 93 = .ok (.invokevirtual 123, 3) := by decide +kernel
theorem dX9_comeBack_96 : decode cX9_comeBack 96 = .ok (.aload_n 0, 1) := by decide +kernel
theorem dX9_comeBack_97 : decode cX9_comeBack 97 = .ok (.iload_n 1, 1) := by decide +kernel
theorem dX9_comeBack_98 : decode cX9_comeBack 98 = .ok (.iconst 3, 1) := by decide +kernel
theorem dX9_comeBack_99 : decode cX9_comeBack 99 = .ok (.iconst 0, 1) := by decide +kernel
theorem dX9_comeBack_100 : decode cX9_comeBack 100 = .ok (.invokevirtual 123, 3) := by decide +kernel
theorem dX9_comeBack_103 : decode cX9_comeBack 103 = .ok (.aload_n 0, 1) := by decide +kernel
theorem dX9_comeBack_104 : decode cX9_comeBack 104 = .ok (.iload 4, 2) := by decide +kernel
theorem dX9_comeBack_106 : decode cX9_comeBack 106 = .ok (.iconst (-1), 1) := by decide +kernel
theorem dX9_comeBack_107 : decode cX9_comeBack 107 = .ok (.iconst (-1), 1) := by decide +kernel
theorem dX9_comeBack_108 : decode cX9_comeBack 108 = .ok (.invokevirtual 102, 3) := by decide +kernel
theorem dX9_comeBack_111 : decode cX9_comeBack 111 = .ok (.aload_n 0, 1) := by decide +kernel
theorem dX9_comeBack_112 : decode cX9_comeBack 112 = .ok (.iload 4, 2) := by decide +kernel
theorem dX9_comeBack_114 : decode cX9_comeBack 114 = .ok (.invokevirtual 70, 3) := by decide +kernel
theorem dX9_comeBack_117 : decode cX9_comeBack 117 = .ok (.ireturn, 1) := by decide +kernel
theorem dX9_dayBegins_0 : decode cX9_dayBegins 0 = .ok (.aload_n 0, 1) := by decide +kernel
theorem dX9_dayBegins_1 : decode cX9_dayBegins 1 = .ok (.getfield 7, 3) := by decide +kernel
theorem dX9_dayBegins_4 : decode cX9_dayBegins 4 = .ok (.bipush 7, 2) := by decide +kernel
theorem dX9_dayBegins_6 : decode cX9_dayBegins 6 = .ok (.dup2, 1) := by decide +kernel
theorem dX9_dayBegins_7 : decode cX9_dayBegins 7 = .ok (.iaload, 1) := by decide +kernel
theorem dX9_dayBegins_8 : decode cX9_dayBegins 8 = .ok (.iconst 1, 1) := by decide +kernel
theorem dX9_dayBegins_9 : decode cX9_dayBegins 9 = .ok (.iadd, 1) := by decide +kernel
theorem dX9_dayBegins_10 : decode cX9_dayBegins 10 = .ok (.iastore, 1) := by decide +kernel
theorem dX9_dayBegins_11 : decode cX9_dayBegins 11 = .ok (.iconst 0, 1) := by decide +kernel
theorem dX9_dayBegins_12 : decode cX9_dayBegins 12 = .ok (.istore_n 1, 1) := by decide +kernel
theorem dX9_dayBegins_13 : decode cX9_dayBegins 13 = .ok (.iload_n 1, 1) := by decide +kernel
theorem dX9_dayBegins_14 : decode cX9_dayBegins 14 = .ok (.aload_n 0, 1) := by decide +kernel
theorem dX9_dayBegins_15 : decode cX9_dayBegins 15 = .ok (.getfield 7, 3) := by decide +kernel
theorem dX9_dayBegins_18 : decode cX9_dayBegins 18 = .ok (.bipush 8, 2) := by decide +kernel
theorem dX9_dayBegins_20 : decode cX9_dayBegins 20 = .ok (.iaload, 1) := by decide +kernel
theorem dX9_dayBegins_21 : decode cX9_dayBegins 21 = .ok (.if_icmp .ge 44, 3) := by decide +kernel
theorem dX9_dayBegins_24 : decode cX9_dayBegins 24 = .ok (.aload_n 0, 1) := by decide +kernel
theorem dX9_dayBegins_25 : decode cX9_dayBegins 25 = .ok (.getfield 7, 3) := by decide +kernel
theorem dX9_dayBegins_28 : decode cX9_dayBegins 28 = .ok (.bipush 7, 2) := by decide +kernel
theorem dX9_dayBegins_30 : decode cX9_dayBegins 30 = .ok (.iaload, 1) := by decide +kernel
theorem dX9_dayBegins_31 : decode cX9_dayBegins 31 = .ok (.bipush 30, 2) := by decide +kernel
theorem dX9_dayBegins_33 : decode cX9_dayBegins 33 = .ok (.irem, 1) := by decide +kernel
theorem dX9_dayBegins_34 : decode cX9_dayBegins 34 = .ok (.ifCond .ne 31, 3) := by decide +kernel
theorem dX9_dayBegins_37 : decode cX9_dayBegins 37 = .ok (.aload_n 0, 1) := by decide +kernel
theorem dX9_dayBegins_38 : decode cX9_dayBegins 38 = .ok (.iload_n 1, 1) := by decide +kernel
theorem dX9_dayBegins_39 : decode cX9_dayBegins 39 = .ok (.iconst 0, 1) := by decide +kernel
theorem dX9_dayBegins_40 : decode cX9_dayBegins 40 = .ok (.invokevirtual 46, 3) := by decide +kernel
theorem dX9_dayBegins_43 : decode cX9_dayBegins 43 = .ok (.iconst 2, 1) := by decide +kernel
theorem dX9_dayBegins_44 : decode cX9_dayBegins 44 = .ok (.if_icmp .eq 15, 3) := by decide +kernel
theorem dX9_dayBegins_47 : decode cX9_dayBegins 47 = .ok (.aload_n 0, 1) := by decide +kernel
theorem dX9_dayBegins_48 : decode cX9_dayBegins 48 = .ok (.iload_n 1, 1) := by decide +kernel
theorem dX9_dayBegins_49 : decode cX9_dayBegins 49 = .ok (.aload_n 0, 1) := by decide +kernel
theorem dX9_dayBegins_50 : decode cX9_dayBegins 50 = .ok (.getfield 7, 3) := by decide +kernel
theorem dX9_dayBegins_53 : decode cX9_dayBegins 53 = .ok (.iconst 0, 1) := by decide +kernel
theorem dX9_dayBegins_54 : decode cX9_dayBegins 54 = .ok (.iaload, 1) := by decide +kernel
theorem dX9_dayBegins_55 : decode cX9_dayBegins 55 = .ok (.iconst 0, 1) := by decide +kernel
theorem dX9_dayBegins_56 : decode cX9_dayBegins 56 = .ok (.invokevirtual 61, 3) := by decide +kernel
theorem dX9_dayBegins_59 : decode cX9_dayBegins 59 = .ok (.iinc 1 1, 3) := by decide +kernel
theorem dX9_dayBegins_62 : decode cX9_dayBegins 62 = .ok (.goto (-49), 3) := by decide +kernel
theorem dX9_dayBegins_65 : decode cX9_dayBegins 65 = .ok (.iconst 0, 1) := by decide +kernel
theorem dX9_dayBegins_66 : decode cX9_dayBegins 66 = .ok (.istore_n 1, 1) := by decide +kernel
theorem dX9_dayBegins_67 : decode cX9_dayBegins 67 = .ok (.iload_n 1, 1) := by decide +kernel
theorem dX9_dayBegins_68 : decode cX9_dayBegins 68 = .ok (.aload_n 0, 1) := by decide +kernel
theorem dX9_dayBegins_69 : decode cX9_dayBegins 69 = .ok (.getfield 7, 3) := by decide +kernel
theorem dX9_dayBegins_72 : decode cX9_dayBegins 72 = .ok (.bipush 9, 2) := by decide +kernel
theorem dX9_dayBegins_74 : decode cX9_dayBegins 74 = .ok (.iaload, 1) := by decide +kernel
theorem dX9_dayBegins_75 : decode cX9_dayBegins 75 = .ok (.if_icmp .ge 34, 3) := by decide +kernel
theorem dX9_dayBegins_78 : decode cX9_dayBegins 78 = .ok (.aload_n 0, 1) := by decide +kernel
theorem dX9_dayBegins_79 : decode cX9_dayBegins 79 = .ok (.iload_n 1, 1) := by decide +kernel
theorem dX9_dayBegins_80 : decode cX9_dayBegins 80 = .ok (.bipush 20, 2) := by decide +kernel
theorem dX9_dayBegins_82 : decode cX9_dayBegins 82 = .ok (.invokevirtual 79, 3) := by decide +kernel
theorem dX9_dayBegins_85 : decode cX9_dayBegins 85 = .ok (.aload_n 0, 1) := by decide +kernel
theorem dX9_dayBegins_86 : decode cX9_dayBegins 86 = .ok (.getfield 7, 3) := by decide +kernel
theorem dX9_dayBegins_89 : decode cX9_dayBegins 89 = .ok (.bipush 7, 2) := by decide +kernel
theorem dX9_dayBegins_91 : decode cX9_dayBegins 91 = .ok (.iaload, 1) := by decide +kernel
theorem dX9_dayBegins_92 : decode cX9_dayBegins 92 = .ok (.if_icmp .ge 11, 3) := by decide +kernel
theorem dX9_dayBegins_95 : decode cX9_dayBegins 95 = .ok (.aload_n 0, 1) := by decide +kernel
theorem dX9_dayBegins_96 : decode cX9_dayBegins 96 = .ok (.iload_n 1, 1) := by decide +kernel
theorem dX9_dayBegins_97 : decode cX9_dayBegins 97 = .ok (.bipush 18, 2) := by decide +kernel
theorem dX9_dayBegins_99 : decode cX9_dayBegins 99 = .ok (.iconst 0, 1) := by decide +kernel
theorem dX9_dayBegins_100 : decode cX9_dayBegins 100 = .ok (.invokevirtual 123, 3) := by decide +kernel
theorem dX9_dayBegins_103 : decode cX9_dayBegins 103 = .ok (.iinc 1 1, 3) := by decide +kernel
theorem dX9_dayBegins_106 : decode cX9_dayBegins 106 = .ok (.goto (-39), 3) := by decide +kernel
theorem dX9_dayBegins_109 : decode cX9_dayBegins 109 = .ok (.return_, 1) := by decide +kernel
theorem dX9_pass_0 : decode cX9_pass 0 = .ok (.iload_n 1, 1) := by decide +kernel
theorem dX9_pass_1 : decode cX9_pass 1 = .ok (.iconst 1, 1) := by decide +kernel
theorem dX9_pass_2 : decode cX9_pass 2 = .ok (.bipush 60, 2) := by decide +kernel
theorem dX9_pass_4 : decode cX9_pass 4 = .ok (.invokestatic 38, 3) := by decide +kernel
theorem dX9_pass_7 : decode cX9_pass 7 = .ok (.ifCond .ne 6, 3) := by decide +kernel
theorem dX9_pass_10 : decode cX9_pass 10 = .ok (.ldc 32, 2) := by decide +kernel
theorem dX9_pass_12 : decode cX9_pass 12 = .ok (.ireturn, 1) := by decide +kernel
theorem dX9_pass_13 : decode cX9_pass 13 = .ok (.aload_n 0, 1) := by decide +kernel
theorem dX9_pass_14 : decode cX9_pass 14 = .ok (.getfield 7, 3) := by decide +kernel
theorem dX9_pass_17 : decode cX9_pass 17 = .ok (.bipush 7, 2) := by decide +kernel
theorem dX9_pass_19 : decode cX9_pass 19 = .ok (.iaload, 1) := by decide +kernel
theorem dX9_pass_20 : decode cX9_pass 20 = .ok (.iload_n 1, 1) := by decide +kernel
theorem dX9_pass_21 : decode cX9_pass 21 = .ok (.iadd, 1) := by decide +kernel
theorem dX9_pass_22 : decode cX9_pass 22 = .ok (.sipush 3000, 3) := by decide +kernel
theorem dX9_pass_25 : decode cX9_pass 25 = .ok (.if_icmp .le 6, 3) := by decide +kernel
theorem dX9_pass_28 : decode cX9_pass 28 = .ok (.ldc 73, 2) := by decide +kernel
theorem dX9_pass_30 : decode cX9_pass 30 = .ok (.ireturn, 1) := by decide +kernel
theorem dX9_pass_31 : decode cX9_pass 31 = .ok (.aload_n 0, 1) := by decide +kernel
theorem dX9_pass_32 : decode cX9_pass 32 = .ok (.invokevirtual 67, 3) := by decide +kernel
theorem dX9_pass_35 : decode cX9_pass 35 = .ok (.iconst 0, 1) := by decide +kernel
theorem dX9_pass_36 : decode cX9_pass 36 = .ok (.istore_n 2, 1) := by decide +kernel
theorem dX9_pass_37 : decode cX9_pass 37 = .ok (.iload_n 2, 1) := by decide +kernel
theorem dX9_pass_38 : decode cX9_pass 38 = .ok (.iload_n 1, 1) := by decide +kernel
theorem dX9_pass_39 : decode cX9_pass 39 = .ok (.if_icmp .ge 13, 3) := by decide +kernel
theorem dX9_pass_42 : decode cX9_pass 42 = .ok (.aload_n 0, 1) := by decide +kernel
theorem dX9_pass_43 : decode cX9_pass 43 = .ok (.invokevirtual 207, 3) := by decide +kernel
theorem dX9_pass_46 : decode cX9_pass 46 = .ok (.iinc 2 1, 3) := by decide +kernel
theorem dX9_pass_49 : decode cX9_pass 49 = .ok (.goto (-12), 3) := by decide +kernel
theorem dX9_pass_52 : decode cX9_pass 52 = .ok (.aload_n 0, 1) := by decide +kernel
theorem dX9_pass_53 : decode cX9_pass 53 = .ok (.aload_n 0, 1) := by decide +kernel
theorem dX9_pass_54 : decode cX9_pass 54 = .ok (.getfield 7, 3) := by decide +kernel
theorem dX9_pass_57 : decode cX9_pass 57 = .ok (.bipush 7, 2) := by decide +kernel
theorem dX9_pass_59 : decode cX9_pass 59 = .ok (.iaload, 1) := by decide +kernel
theorem dX9_pass_60 : decode cX9_pass 60 = .ok (.invokevirtual 70, 3) := by decide +kernel
theorem dX9_pass_63 : decode cX9_pass 63 = .ok (.ireturn, 1) := by decide +kernel
theorem dX9_inStatus_0 : decode cX9_inStatus 0 = .ok (.iconst 0, 1) := by decide +kernel
theorem dX9_inStatus_1 : decode cX9_inStatus 1 = .ok (.istore_n 2, 1) := by decide +kernel
theorem dX9_inStatus_2 : decode cX9_inStatus 2 = .ok (.iconst 0, 1) := by decide +kernel
theorem dX9_inStatus_3 : decode cX9_inStatus 3 = .ok (.istore_n 3, 1) := by decide +kernel
theorem dX9_inStatus_4 : decode cX9_inStatus 4 = .ok (.iload_n 3, 1) := by decide +kernel
theorem dX9_inStatus_5 : decode cX9_inStatus 5 = .ok (.aload_n 0, 1) := by decide +kernel
theorem dX9_inStatus_6 : decode cX9_inStatus 6 = .ok (.getfield 7, 3) := by decide +kernel
theorem dX9_inStatus_9 : decode cX9_inStatus 9 = .ok (.bipush 8, 2) := by decide +kernel
theorem dX9_inStatus_11 : decode cX9_inStatus 11 = .ok (.iaload, 1) := by decide +kernel
theorem dX9_inStatus_12 : decode cX9_inStatus 12 = .ok (.if_icmp .ge 27, 3) := by decide +kernel
theorem dX9_inStatus_15 : decode cX9_inStatus 15 = .ok (.iload_n 2, 1) := by decide +kernel
theorem dX9_inStatus_16 : decode cX9_inStatus 16 = .ok (.aload_n 0, 1) := by decide +kernel
theorem dX9_inStatus_17 : decode cX9_inStatus 17 = .ok (.iload_n 3, 1) := by decide +kernel
theorem dX9_inStatus_18 : decode cX9_inStatus 18 = .ok (.iconst 0, 1) := by decide +kernel
theorem dX9_inStatus_19 : decode cX9_inStatus 19 = .ok (.invokevirtual 46, 3) := by decide +kernel
theorem dX9_inStatus_22 : decode cX9_inStatus 22 = .ok (.iload_n 1, 1) := by decide +kernel
theorem dX9_inStatus_23 : decode cX9_inStatus 23 = .ok (.if_icmp .ne 7, 3) := by decide +kernel
theorem dX9_inStatus_26 : decode cX9_inStatus 26 = .ok (.iconst 1, 1) := by decide +kernel
theorem dX9_inStatus_27 : decode cX9_inStatus 27 = .ok (.goto 4, 3) := by decide +kernel
theorem dX9_inStatus_30 : decode cX9_inStatus 30 = .ok (.iconst 0, 1) := by decide +kernel
theorem dX9_inStatus_31 : decode cX9_inStatus 31 = .ok (.iadd, 1) := by decide +kernel
theorem dX9_inStatus_32 : decode cX9_inStatus 32 = .ok (.istore_n 2, 1) := by decide +kernel
theorem dX9_inStatus_33 : decode cX9_inStatus 33 = .ok (.iinc 3 1, 3) := by decide +kernel
theorem dX9_inStatus_36 : decode cX9_inStatus 36 = .ok (.goto (-32), 3) := by decide +kernel
theorem dX9_inStatus_39 : decode cX9_inStatus 39 = .ok (.iload_n 2, 1) := by decide +kernel
theorem dX9_inStatus_40 : decode cX9_inStatus 40 = .ok (.ireturn, 1) := by decide +kernel
theorem dX9_inPlace_0 : decode cX9_inPlace 0 = .ok (.iconst 0, 1) := by decide +kernel
theorem dX9_inPlace_1 : decode cX9_inPlace 1 = .ok (.istore_n 2, 1) := by decide +kernel
theorem dX9_inPlace_2 : decode cX9_inPlace 2 = .ok (.iconst 0, 1) := by decide +kernel
theorem dX9_inPlace_3 : decode cX9_inPlace 3 = .ok (.istore_n 3, 1) := by decide +kernel
theorem dX9_inPlace_4 : decode cX9_inPlace 4 = .ok (.iload_n 3, 1) := by decide +kernel
theorem dX9_inPlace_5 : decode cX9_inPlace 5 = .ok (.aload_n 0, 1) := by decide +kernel
theorem dX9_inPlace_6 : decode cX9_inPlace 6 = .ok (.getfield 7, 3) := by decide +kernel
theorem dX9_inPlace_9 : decode cX9_inPlace 9 = .ok (.bipush 9, 2) := by decide +kernel
theorem dX9_inPlace_11 : decode cX9_inPlace 11 = .ok (.iaload, 1) := by decide +kernel
theorem dX9_inPlace_12 : decode cX9_inPlace 12 = .ok (.if_icmp .ge 27, 3) := by decide +kernel
theorem dX9_inPlace_15 : decode cX9_inPlace 15 = .ok (.iload_n 2, 1) := by decide +kernel
theorem dX9_inPlace_16 : decode cX9_inPlace 16 = .ok (.aload_n 0, 1) := by decide +kernel
theorem dX9_inPlace_17 : decode cX9_inPlace 17 = .ok (.iload_n 3, 1) := by decide +kernel
theorem dX9_inPlace_18 : decode cX9_inPlace 18 = .ok (.iconst 3, 1) := by decide +kernel
theorem dX9_inPlace_19 : decode cX9_inPlace 19 = .ok (.invokevirtual 79, 3) := by decide +kernel
theorem dX9_inPlace_22 : decode cX9_inPlace 22 = .ok (.iload_n 1, 1) := by decide +kernel
theorem dX9_inPlace_23 : decode cX9_inPlace 23 = .ok (.if_icmp .ne 7, 3) := by decide +kernel
theorem dX9_inPlace_26 : decode cX9_inPlace 26 = .ok (.iconst 1, 1) := by decide +kernel
theorem dX9_inPlace_27 : decode cX9_inPlace 27 = .ok (.goto 4, 3) := by decide +kernel
theorem dX9_inPlace_30 : decode cX9_inPlace 30 = .ok (.iconst 0, 1) := by decide +kernel
theorem dX9_inPlace_31 : decode cX9_inPlace 31 = .ok (.iadd, 1) := by decide +kernel
theorem dX9_inPlace_32 : decode cX9_inPlace 32 = .ok (.istore_n 2, 1) := by decide +kernel
theorem dX9_inPlace_33 : decode cX9_inPlace 33 = .ok (.iinc 3 1, 3) := by decide +kernel
theorem dX9_inPlace_36 : decode cX9_inPlace 36 = .ok (.goto (-32), 3) := by decide +kernel
theorem dX9_inPlace_39 : decode cX9_inPlace 39 = .ok (.iload_n 2, 1) := by decide +kernel
theorem dX9_inPlace_40 : decode cX9_inPlace 40 = .ok (.ireturn, 1) := by decide +kernel
theorem dX9_proposals_0 : decode cX9_proposals 0 = .ok (.iconst 0, 1) := by decide +kernel
theorem dX9_proposals_1 : decode cX9_proposals 1 = .ok (.istore_n 1, 1) := by decide +kernel
theorem dX9_proposals_2 : decode cX9_proposals 2 = .ok (.iconst 0, 1) := by decide +kernel
theorem dX9_proposals_3 : decode cX9_proposals 3 = .ok (.istore_n 2, 1) := by decide +kernel
theorem dX9_proposals_4 : decode cX9_proposals 4 = .ok (.iload_n 2, 1) := by decide +kernel
theorem dX9_proposals_5 : decode cX9_proposals 5 = .ok (.aload_n 0, 1) := by decide +kernel
theorem dX9_proposals_6 : decode cX9_proposals 6 = .ok (.getfield 7, 3) := by decide +kernel
theorem dX9_proposals_9 : decode cX9_proposals 9 = .ok (.bipush 9, 2) := by decide +kernel
theorem dX9_proposals_11 : decode cX9_proposals 11 = .ok (.iaload, 1) := by decide +kernel
theorem dX9_proposals_12 : decode cX9_proposals 12 = .ok (.if_icmp .ge 27, 3) := by decide +kernel
theorem dX9_proposals_15 : decode cX9_proposals 15 = .ok (.iload_n 1, 1) := by decide +kernel
theorem dX9_proposals_16 : decode cX9_proposals 16 = .ok (.aload_n 0, 1) := by decide +kernel
theorem dX9_proposals_17 : decode cX9_proposals 17 = .ok (.iload_n 2, 1) := by decide +kernel
theorem dX9_proposals_18 : decode cX9_proposals 18 = .ok (.bipush 18, 2) := by decide +kernel
theorem dX9_proposals_20 : decode cX9_proposals 20 = .ok (.invokevirtual 79, 3) := by decide +kernel
theorem dX9_proposals_23 : decode cX9_proposals 23 = .ok (.ifCond .le 7, 3) := by decide +kernel
theorem dX9_proposals_26 : decode cX9_proposals 26 = .ok (.iconst 1, 1) := by decide +kernel
theorem dX9_proposals_27 : decode cX9_proposals 27 = .ok (.goto 4, 3) := by decide +kernel
theorem dX9_proposals_30 : decode cX9_proposals 30 = .ok (.iconst 0, 1) := by decide +kernel
theorem dX9_proposals_31 : decode cX9_proposals 31 = .ok (.iadd, 1) := by decide +kernel
theorem dX9_proposals_32 : decode cX9_proposals 32 = .ok (.istore_n 1, 1) := by decide +kernel
theorem dX9_proposals_33 : decode cX9_proposals 33 = .ok (.iinc 2 1, 3) := by decide +kernel
theorem dX9_proposals_36 : decode cX9_proposals 36 = .ok (.goto (-32), 3) := by decide +kernel
theorem dX9_proposals_39 : decode cX9_proposals 39 = .ok (.iload_n 1, 1) := by decide +kernel
theorem dX9_proposals_40 : decode cX9_proposals 40 = .ok (.ireturn, 1) := by decide +kernel
theorem dX9_count_0 : decode cX9_count 0 = .ok (.iload_n 1, 1) := by decide +kernel
theorem dX9_count_1 : decode cX9_count 1 = .ok (.iconst 0, 1) := by decide +kernel
theorem dX9_count_2 : decode cX9_count 2 = .ok (.bipush 11, 2) := by decide +kernel
theorem dX9_count_4 : decode cX9_count 4 = .ok (.invokestatic 38, 3) := by decide +kernel
theorem dX9_count_7 : decode cX9_count 7 = .ok (.ifCond .ne 17, 3) := by decide +kernel
theorem dX9_count_10 : decode cX9_count 10 = .ok (.iload_n 1, 1) := by decide +kernel
theorem dX9_count_11 : decode cX9_count 11 = .ok (.bipush 20, 2) := by decide +kernel
theorem dX9_count_13 : decode cX9_count 13 = .ok (.bipush 26, 2) := by decide +kernel
theorem dX9_count_15 : decode cX9_count 15 = .ok (.invokestatic 38, 3) := by decide +kernel
theorem dX9_count_18 : decode cX9_count 18 = .ok (.ifCond .ne 6, 3) := by decide +kernel
theorem dX9_count_21 : decode cX9_count 21 = .ok (.ldc 32, 2) := by decide +kernel
theorem dX9_count_23 : decode cX9_count 23 = .ok (.ireturn, 1) := by decide +kernel
theorem dX9_count_24 : decode cX9_count 24 = .ok (.iload_n 1, 1) := by decide +kernel
theorem dX9_count_25 : decode cX9_count 25 = .ok (.bipush 8, 2) := by decide +kernel
theorem dX9_count_27 : decode cX9_count 27 = .ok (.if_icmp .ge 24, 3) := by decide +kernel
theorem dX9_count_30 : decode cX9_count 30 = .ok (.iload_n 1, 1) := by decide +kernel
theorem dX9_count_31 : decode cX9_count 31 = .ok (.iconst 3, 1) := by decide +kernel
theorem dX9_count_32 : decode cX9_count 32 = .ok (.if_icmp .ge 11, 3) := by decide +kernel
theorem dX9_count_35 : decode cX9_count 35 = .ok (.aload_n 0, 1) := by decide +kernel
theorem dX9_count_36 : decode cX9_count 36 = .ok (.iload_n 1, 1) := by decide +kernel
theorem dX9_count_37 : decode cX9_count 37 = .ok (.invokevirtual 210, 3) := by decide +kernel
theorem dX9_count_40 : decode cX9_count 40 = .ok (.goto 10, 3) := by decide +kernel
theorem dX9_count_43 : decode cX9_count 43 = .ok (.aload_n 0, 1) := by decide +kernel
theorem dX9_count_44 : decode cX9_count 44 = .ok (.iload_n 1, 1) := by decide +kernel
theorem dX9_count_45 : decode cX9_count 45 = .ok (.iconst 3, 1) := by decide +kernel
theorem dX9_count_46 : decode cX9_count 46 = .ok (.isub, 1) := by decide +kernel
theorem dX9_count_47 : decode cX9_count 47 = .ok (.invokevirtual 213, 3) := by decide +kernel
theorem dX9_count_50 : decode cX9_count 50 = .ok (.ireturn, 1) := by decide +kernel
theorem dX9_count_51 : decode cX9_count 51 = .ok (.iload_n 1, 1) := by decide +kernel
theorem dX9_count_52 : decode cX9_count 52 = .ok (.tableswitch 55 8 11 #[32, 37, 45, 50], 32) := by decide +kernel
theorem dX9_count_84 : decode cX9_count 84 = .ok (.aload_n 0, 1) := by decide +kernel
theorem dX9_count_85 : decode cX9_count 85 = .ok (.invokevirtual 216, 3) := by decide +kernel
theorem dX9_count_88 : decode cX9_count 88 = .ok (.ireturn, 1) := by decide +kernel
theorem dX9_count_89 : decode cX9_count 89 = .ok (.aload_n 0, 1) := by decide +kernel
theorem dX9_count_90 : decode cX9_count 90 = .ok (.getfield 7, 3) := by decide +kernel
theorem dX9_count_93 : decode cX9_count 93 = .ok (.bipush 7, 2) := by decide +kernel
theorem dX9_count_95 : decode cX9_count 95 = .ok (.iaload, 1) := by decide +kernel
theorem dX9_count_96 : decode cX9_count 96 = .ok (.ireturn, 1) := by decide +kernel
theorem dX9_count_97 : decode cX9_count 97 = .ok (.aload_n 0, 1) := by decide +kernel
theorem dX9_count_98 : decode cX9_count 98 = .ok (.getfield 34, 3) := by decide +kernel
theorem dX9_count_101 : decode cX9_count 101 = .ok (.ireturn, 1) := by decide +kernel
theorem dX9_count_102 : decode cX9_count 102 = .ok (.aload_n 0, 1) := by decide +kernel
theorem dX9_count_103 : decode cX9_count 103 = .ok (.getfield 219, 3) := by decide +kernel
theorem dX9_count_106 : decode cX9_count 106 = .ok (.ireturn, 1) := by decide +kernel
theorem dX9_count_107 : decode cX9_count 107 = .ok (.aload_n 0, 1) := by decide +kernel
theorem dX9_count_108 : decode cX9_count 108 = .ok (.getfield 7, 3) := by decide +kernel
theorem dX9_count_111 : decode cX9_count 111 = .ok (.iload_n 1, 1) := by decide +kernel
theorem dX9_count_112 : decode cX9_count 112 = .ok (.bipush 20, 2) := by decide +kernel
theorem dX9_count_114 : decode cX9_count 114 = .ok (.isub, 1) := by decide +kernel
theorem dX9_count_115 : decode cX9_count 115 = .ok (.iaload, 1) := by decide +kernel
theorem dX9_count_116 : decode cX9_count 116 = .ok (.ireturn, 1) := by decide +kernel
theorem dX9_undo_0 : decode cX9_undo 0 = .ok (.aload_n 0, 1) := by decide +kernel
theorem dX9_undo_1 : decode cX9_undo 1 = .ok (.getfield 34, 3) := by decide +kernel
theorem dX9_undo_4 : decode cX9_undo 4 = .ok (.ifCond .ne 6, 3) := by decide +kernel
theorem dX9_undo_7 : decode cX9_undo 7 = .ok (.ldc 78, 2) := by decide +kernel
theorem dX9_undo_9 : decode cX9_undo 9 = .ok (.ireturn, 1) := by decide +kernel
theorem dX9_undo_10 : decode cX9_undo 10 = .ok (.aload_n 0, 1) := by decide +kernel
theorem dX9_undo_11 : decode cX9_undo 11 = .ok (.dup, 1) := by decide +kernel
theorem dX9_undo_12 : decode cX9_undo 12 = .ok (.getfield 34, 3) := by decide +kernel
theorem dX9_undo_15 : decode cX9_undo 15 = .ok (.iconst 1, 1) := by decide +kernel
theorem dX9_undo_16 : decode cX9_undo 16 = .ok (.isub, 1) := by decide +kernel
theorem dX9_undo_17 : decode cX9_undo 17 = .ok (.putfield 34, 3) := by decide +kernel
theorem dX9_undo_20 : decode cX9_undo 20 = .ok (.aload_n 0, 1) := by decide +kernel
theorem dX9_undo_21 : decode cX9_undo 21 = .ok (.getfield 19, 3) := by decide +kernel
theorem dX9_undo_24 : decode cX9_undo 24 = .ok (.sipush 602, 3) := by decide +kernel
theorem dX9_undo_27 : decode cX9_undo 27 = .ok (.aload_n 0, 1) := by decide +kernel
theorem dX9_undo_28 : decode cX9_undo 28 = .ok (.getfield 34, 3) := by decide +kernel
theorem dX9_undo_31 : decode cX9_undo 31 = .ok (.imul, 1) := by decide +kernel
theorem dX9_undo_32 : decode cX9_undo 32 = .ok (.aload_n 0, 1) := by decide +kernel
theorem dX9_undo_33 : decode cX9_undo 33 = .ok (.getfield 7, 3) := by decide +kernel
theorem dX9_undo_36 : decode cX9_undo 36 = .ok (.iconst 0, 1) := by decide +kernel
theorem dX9_undo_37 : decode cX9_undo 37 = .ok (.invokestatic 28, 3) := by decide +kernel
theorem dX9_undo_40 : decode cX9_undo 40 = .ok (.aload_n 0, 1) := by decide +kernel
theorem dX9_undo_41 : decode cX9_undo 41 = .ok (.getfield 34, 3) := by decide +kernel
theorem dX9_undo_44 : decode cX9_undo 44 = .ok (.ireturn, 1) := by decide +kernel
theorem dX9_type_0 : decode cX9_type 0 = .ok (.iload_n 1, 1) := by decide +kernel
theorem dX9_type_1 : decode cX9_type 1 = .ok (.bipush 32, 2) := by decide +kernel
theorem dX9_type_3 : decode cX9_type 3 = .ok (.bipush 126, 2) := by decide +kernel
theorem dX9_type_5 : decode cX9_type 5 = .ok (.invokestatic 38, 3) := by decide +kernel
theorem dX9_type_8 : decode cX9_type 8 = .ok (.ifCond .ne 6, 3) := by decide +kernel
theorem dX9_type_11 : decode cX9_type 11 = .ok (.ldc 32, 2) := by decide +kernel
theorem dX9_type_13 : decode cX9_type 13 = .ok (.ireturn, 1) := by decide +kernel
theorem dX9_type_14 : decode cX9_type 14 = .ok (.aload_n 0, 1) := by decide +kernel
theorem dX9_type_15 : decode cX9_type 15 = .ok (.getfield 219, 3) := by decide +kernel
theorem dX9_type_18 : decode cX9_type 18 = .ok (.bipush 60, 2) := by decide +kernel
theorem dX9_type_20 : decode cX9_type 20 = .ok (.if_icmp .ne 6, 3) := by decide +kernel
theorem dX9_type_23 : decode cX9_type 23 = .ok (.ldc 73, 2) := by decide +kernel
theorem dX9_type_25 : decode cX9_type 25 = .ok (.ireturn, 1) := by decide +kernel
theorem dX9_type_26 : decode cX9_type 26 = .ok (.aload_n 0, 1) := by decide +kernel
theorem dX9_type_27 : decode cX9_type 27 = .ok (.getfield 22, 3) := by decide +kernel
theorem dX9_type_30 : decode cX9_type 30 = .ok (.aload_n 0, 1) := by decide +kernel
theorem dX9_type_31 : decode cX9_type 31 = .ok (.getfield 219, 3) := by decide +kernel
theorem dX9_type_34 : decode cX9_type 34 = .ok (.iload_n 1, 1) := by decide +kernel
theorem dX9_type_35 : decode cX9_type 35 = .ok (.iastore, 1) := by decide +kernel
theorem dX9_type_36 : decode cX9_type 36 = .ok (.aload_n 0, 1) := by decide +kernel
theorem dX9_type_37 : decode cX9_type 37 = .ok (.dup, 1) := by decide +kernel
theorem dX9_type_38 : decode cX9_type 38 = .ok (.getfield 219, 3) := by decide +kernel
theorem dX9_type_41 : decode cX9_type 41 = .ok (.iconst 1, 1) := by decide +kernel
theorem dX9_type_42 : decode cX9_type 42 = .ok (.iadd, 1) := by decide +kernel
theorem dX9_type_43 : decode cX9_type 43 = .ok (.putfield 219, 3) := by decide +kernel
theorem dX9_type_46 : decode cX9_type 46 = .ok (.aload_n 0, 1) := by decide +kernel
theorem dX9_type_47 : decode cX9_type 47 = .ok (.getfield 219, 3) := by decide +kernel
theorem dX9_type_50 : decode cX9_type 50 = .ok (.ireturn, 1) := by decide +kernel
theorem dX9_clearText_0 : decode cX9_clearText 0 = .ok (.aload_n 0, 1) := by decide +kernel
theorem dX9_clearText_1 : decode cX9_clearText 1 = .ok (.getfield 219, 3) := by decide +kernel
theorem dX9_clearText_4 : decode cX9_clearText 4 = .ok (.istore_n 1, 1) := by decide +kernel
theorem dX9_clearText_5 : decode cX9_clearText 5 = .ok (.aload_n 0, 1) := by decide +kernel
theorem dX9_clearText_6 : decode cX9_clearText 6 = .ok (.iconst 0, 1) := by decide +kernel
theorem dX9_clearText_7 : decode cX9_clearText 7 = .ok (.putfield 219, 3) := by decide +kernel
theorem dX9_clearText_10 : decode cX9_clearText 10 = .ok (.iload_n 1, 1) := by decide +kernel
theorem dX9_clearText_11 : decode cX9_clearText 11 = .ok (.ireturn, 1) := by decide +kernel
theorem dX9_here_0 : decode cX9_here 0 = .ok (.aload_n 0, 1) := by decide +kernel
theorem dX9_here_1 : decode cX9_here 1 = .ok (.getfield 222, 3) := by decide +kernel
theorem dX9_here_4 : decode cX9_here 4 = .ok (.aload_n 0, 1) := by decide +kernel
theorem dX9_here_5 : decode cX9_here 5 = .ok (.getfield 219, 3) := by decide +kernel
theorem dX9_here_8 : decode cX9_here 8 = .ok (.if_icmp .ge 15, 3) := by decide +kernel
theorem dX9_here_11 : decode cX9_here 11 = .ok (.aload_n 0, 1) := by decide +kernel
theorem dX9_here_12 : decode cX9_here 12 = .ok (.getfield 22, 3) := by decide +kernel
theorem dX9_here_15 : decode cX9_here 15 = .ok (.aload_n 0, 1) := by decide +kernel
theorem dX9_here_16 : decode cX9_here 16 = .ok (.getfield 222, 3) := by decide +kernel
theorem dX9_here_19 : decode cX9_here 19 = .ok (.iaload, 1) := by decide +kernel
theorem dX9_here_20 : decode cX9_here 20 = .ok (.goto 4, 3) := by decide +kernel
theorem dX9_here_23 : decode cX9_here 23 = .ok (.iconst (-1), 1) := by decide +kernel
theorem dX9_here_24 : decode cX9_here 24 = .ok (.ireturn, 1) := by decide +kernel
theorem dX9_number_0 : decode cX9_number 0 = .ok (.aload_n 0, 1) := by decide +kernel
theorem dX9_number_1 : decode cX9_number 1 = .ok (.getfield 222, 3) := by decide +kernel
theorem dX9_number_4 : decode cX9_number 4 = .ok (.istore_n 1, 1) := by decide +kernel
theorem dX9_number_5 : decode cX9_number 5 = .ok (.iconst 0, 1) := by decide +kernel
theorem dX9_number_6 : decode cX9_number 6 = .ok (.istore_n 2, 1) := by decide +kernel
theorem dX9_number_7 : decode cX9_number 7 = .ok (.aload_n 0, 1) := by decide +kernel
theorem dX9_number_8 : decode cX9_number 8 = .ok (.invokevirtual 225, 3) := by decide +kernel
theorem dX9_number_11 : decode cX9_number 11 = .ok (.bipush 48, 2) := by decide +kernel
theorem dX9_number_13 : decode cX9_number 13 = .ok (.bipush 57, 2) := by decide +kernel
theorem dX9_number_15 : decode cX9_number 15 = .ok (.invokestatic 38, 3) := by decide +kernel
theorem dX9_number_18 : decode cX9_number 18 = .ok (.ifCond .eq 39, 3) := by decide +kernel
theorem dX9_number_21 : decode cX9_number 21 = .ok (.aload_n 0, 1) := by decide +kernel
theorem dX9_number_22 : decode cX9_number 22 = .ok (.getfield 222, 3) := by decide +kernel
theorem dX9_number_25 : decode cX9_number 25 = .ok (.iload_n 1, 1) := by decide +kernel
theorem dX9_number_26 : decode cX9_number 26 = .ok (.iconst 3, 1) := by decide +kernel
theorem dX9_number_27 : decode cX9_number 27 = .ok (.iadd, 1) := by decide +kernel
theorem dX9_number_28 : decode cX9_number 28 = .ok (.if_icmp .ge 29, 3) := by decide +kernel
theorem dX9_number_31 : decode cX9_number 31 = .ok (.bipush 10, 2) := by decide +kernel
theorem dX9_number_33 : decode cX9_number 33 = .ok (.iload_n 2, 1) := by decide +kernel
theorem dX9_number_34 : decode cX9_number 34 = .ok (.imul, 1) := by decide +kernel
theorem dX9_number_35 : decode cX9_number 35 = .ok (.aload_n 0, 1) := by decide +kernel
theorem dX9_number_36 : decode cX9_number 36 = .ok (.invokevirtual 225, 3) := by decide +kernel
theorem dX9_number_39 : decode cX9_number 39 = .ok (.iadd, 1) := by decide +kernel
theorem dX9_number_40 : decode cX9_number 40 = .ok (.bipush 48, 2) := by decide +kernel
theorem dX9_number_42 : decode cX9_number 42 = .ok (.isub, 1) := by decide +kernel
theorem dX9_number_43 : decode cX9_number 43 = .ok (.istore_n 2, 1) := by decide +kernel
theorem dX9_number_44 : decode cX9_number 44 = .ok (.aload_n 0, 1) := by decide +kernel
theorem dX9_number_45 : decode cX9_number 45 = .ok (.dup, 1) := by decide +kernel
theorem dX9_number_46 : decode cX9_number 46 = .ok (.getfield 222, 3) := by decide +kernel
theorem dX9_number_49 : decode cX9_number 49 = .ok (.iconst 1, 1) := by decide +kernel
theorem dX9_number_50 : decode cX9_number 50 = .ok (.iadd, 1) := by decide +kernel
theorem dX9_number_51 : decode cX9_number 51 = .ok (.putfield 222, 3) := by decide +kernel
theorem dX9_number_54 : decode cX9_number 54 = .ok (.goto (-47), 3) := by decide +kernel
theorem dX9_number_57 : decode cX9_number 57 = .ok (.aload_n 0, 1) := by decide +kernel
theorem dX9_number_58 : decode cX9_number 58 = .ok (.getfield 222, 3) := by decide +kernel
theorem dX9_number_61 : decode cX9_number 61 = .ok (.iload_n 1, 1) := by decide +kernel
theorem dX9_number_62 : decode cX9_number 62 = .ok (.if_icmp .ne 7, 3) := by decide +kernel
theorem dX9_number_65 : decode cX9_number 65 = .ok (.iconst (-1), 1) := by decide +kernel
theorem dX9_number_66 : decode cX9_number 66 = .ok (.goto 4, 3) := by decide +kernel
theorem dX9_number_69 : decode cX9_number 69 = .ok (.iload_n 2, 1) := by decide +kernel
theorem dX9_number_70 : decode cX9_number 70 = .ok (.ireturn, 1) := by decide +kernel
theorem dX9_passes_0 : decode cX9_passes 0 = .ok (.aload_n 0, 1) := by decide +kernel
theorem dX9_passes_1 : decode cX9_passes 1 = .ok (.invokevirtual 225, 3) := by decide +kernel
theorem dX9_passes_4 : decode cX9_passes 4 = .ok (.iload_n 1, 1) := by decide +kernel
theorem dX9_passes_5 : decode cX9_passes 5 = .ok (.if_icmp .ne 7, 3) := by decide +kernel
theorem dX9_passes_8 : decode cX9_passes 8 = .ok (.iconst 1, 1) := by decide +kernel
theorem dX9_passes_9 : decode cX9_passes 9 = .ok (.goto 4, 3) := by decide +kernel
theorem dX9_passes_12 : decode cX9_passes 12 = .ok (.iconst 0, 1) := by decide +kernel
theorem dX9_passes_13 : decode cX9_passes 13 = .ok (.istore_n 2, 1) := by decide +kernel
theorem dX9_passes_14 : decode cX9_passes 14 = .ok (.aload_n 0, 1) := by decide +kernel
theorem dX9_passes_15 : decode cX9_passes 15 = .ok (.dup, 1) := by decide +kernel
theorem dX9_passes_16 : decode cX9_passes 16 = .ok (.getfield 222, 3) := by decide +kernel
theorem dX9_passes_19 : decode cX9_passes 19 = .ok (.iload_n 2, 1) := by decide +kernel
theorem dX9_passes_20 : decode cX9_passes 20 = .ok (.ifCond .eq 7, 3) := by decide +kernel
theorem dX9_passes_23 : decode cX9_passes 23 = .ok (.iconst 1, 1) := by decide +kernel
theorem dX9_passes_24 : decode cX9_passes 24 = .ok (.goto 4, 3) := by decide +kernel
theorem dX9_passes_27 : decode cX9_passes 27 = .ok (.iconst 0, 1) := by decide +kernel
theorem dX9_passes_28 : decode cX9_passes 28 = .ok (.iadd, 1) := by decide +kernel
theorem dX9_passes_29 : decode cX9_passes 29 = .ok (.putfield 222, 3) := by decide +kernel
theorem dX9_passes_32 : decode cX9_passes 32 = .ok (.iload_n 2, 1) := by decide +kernel
theorem dX9_passes_33 : decode cX9_passes 33 = .ok (.ireturn, 1) := by decide +kernel
theorem dX9_readOrder_0 : decode cX9_readOrder 0 = .ok (.aload_n 0, 1) := by decide +kernel
theorem dX9_readOrder_1 : decode cX9_readOrder 1 = .ok (.aload_n 0, 1) := by decide +kernel
theorem dX9_readOrder_2 : decode cX9_readOrder 2 = .ok (.invokevirtual 225, 3) := by decide +kernel
theorem dX9_readOrder_5 : decode cX9_readOrder 5 = .ok (.putfield 228, 3) := by decide +kernel
theorem dX9_readOrder_8 : decode cX9_readOrder 8 = .ok (.aload_n 0, 1) := by decide +kernel
theorem dX9_readOrder_9 : decode cX9_readOrder 9 = .ok (.dup, 1) := by decide +kernel
theorem dX9_readOrder_10 : decode cX9_readOrder 10 = .ok (.getfield 222, 3) := by decide +kernel
theorem dX9_readOrder_13 : decode cX9_readOrder 13 = .ok (.iconst 1, 1) := by decide +kernel
theorem dX9_readOrder_14 : decode cX9_readOrder 14 = .ok (.iadd, 1) := by decide +kernel
theorem dX9_readOrder_15 : decode cX9_readOrder 15 = .ok (.putfield 222, 3) := by decide +kernel
theorem dX9_readOrder_18 : decode cX9_readOrder 18 = .ok (.aload_n 0, 1) := by decide +kernel
theorem dX9_readOrder_19 : decode cX9_readOrder 19 = .ok (.iconst (-1), 1) := by decide +kernel
theorem dX9_readOrder_20 : decode cX9_readOrder 20 = .ok (.putfield 231, 3) := by decide +kernel
theorem dX9_readOrder_23 : decode cX9_readOrder 23 = .ok (.aload_n 0, 1) := by decide +kernel
theorem dX9_readOrder_24 : decode cX9_readOrder 24 = .ok (.iconst (-1), 1) := by decide +kernel
theorem dX9_readOrder_25 : decode cX9_readOrder 25 = .ok (.putfield 234, 3) := by decide +kernel
theorem dX9_readOrder_28 : decode cX9_readOrder 28 = .ok (.aload_n 0, 1) := by decide +kernel
theorem dX9_readOrder_29 : decode cX9_readOrder 29 = .ok (.getfield 228, 3) := by decide +kernel
theorem dX9_readOrder_32 : decode cX9_readOrder 32 = .ok (.bipush 115, 2) := by decide +kernel
theorem dX9_readOrder_34 : decode cX9_readOrder 34 = .ok (.if_icmp .ne 10, 3) := by decide +kernel
theorem dX9_readOrder_37 : decode cX9_readOrder 37 = .ok (.aload_n 0, 1) := by decide +kernel
theorem dX9_readOrder_38 : decode cX9_readOrder 38 = .ok (.bipush 59, 2) := by decide +kernel
theorem dX9_readOrder_40 : decode cX9_readOrder 40 = .ok (.invokevirtual 237, 3) := by decide +kernel
theorem dX9_readOrder_43 : decode cX9_readOrder 43 = .ok (.ireturn, 1) := by decide +kernel
theorem dX9_readOrder_44 : decode cX9_readOrder 44 = .ok (.aload_n 0, 1) := by decide +kernel
theorem dX9_readOrder_45 : decode cX9_readOrder 45 = .ok (.getfield 228, 3) := by decide +kernel
theorem dX9_readOrder_48 : decode cX9_readOrder 48 = .ok (.bipush 103, 2) := by decide +kernel
theorem dX9_readOrder_50 : decode cX9_readOrder 50 = .ok (.if_icmp .eq 23, 3) := by decide +kernel
theorem dX9_readOrder_53 : decode cX9_readOrder 53 = .ok (.aload_n 0, 1) := by decide +kernel
theorem dX9_readOrder_54 : decode cX9_readOrder 54 = .ok (.getfield 228, 3) := by decide +kernel
theorem dX9_readOrder_57 : decode cX9_readOrder 57 = .ok (.bipush 108, 2) := by decide +kernel
theorem dX9_readOrder_59 : decode cX9_readOrder 59 = .ok (.if_icmp .eq 14, 3) := by decide +kernel
theorem dX9_readOrder_62 : decode cX9_readOrder 62 = .ok (.aload_n 0, 1) := by decide +kernel
theorem dX9_readOrder_63 : decode cX9_readOrder 63 = .ok (.getfield 228, 3) := by decide +kernel
theorem dX9_readOrder_66 : decode cX9_readOrder 66 = .ok (.bipush 98, 2) := by decide +kernel
theorem dX9_readOrder_68 : decode cX9_readOrder 68 = .ok (.if_icmp .eq 5, 3) := by decide +kernel
theorem dX9_readOrder_71 : decode cX9_readOrder 71 = .ok (.iconst 0, 1) := by decide +kernel
theorem dX9_readOrder_72 : decode cX9_readOrder 72 = .ok (.ireturn, 1) := by decide +kernel
theorem dX9_readOrder_73 : decode cX9_readOrder 73 = .ok (.aload_n 0, 1) := by decide +kernel
theorem dX9_readOrder_74 : decode cX9_readOrder 74 = .ok (.aload_n 0, 1) := by decide +kernel
theorem dX9_readOrder_75 : decode cX9_readOrder 75 = .ok (.invokevirtual 240, 3) := by decide +kernel
theorem dX9_readOrder_78 : decode cX9_readOrder 78 = .ok (.putfield 231, 3) := by decide +kernel
theorem dX9_readOrder_81 : decode cX9_readOrder 81 = .ok (.aload_n 0, 1) := by decide +kernel
theorem dX9_readOrder_82 : decode cX9_readOrder 82 = .ok (.getfield 231, 3) := by decide +kernel
theorem dX9_readOrder_85 : decode cX9_readOrder 85 = .ok (.ifCond .ge 5, 3) := by decide +kernel
theorem dX9_readOrder_88 : decode cX9_readOrder 88 = .ok (.iconst 0, 1) := by decide +kernel
theorem dX9_readOrder_89 : decode cX9_readOrder 89 = .ok (.ireturn, 1) := by decide +kernel
theorem dX9_readOrder_90 : decode cX9_readOrder 90 = .ok (.aload_n 0, 1) := by decide +kernel
theorem dX9_readOrder_91 : decode cX9_readOrder 91 = .ok (.getfield 228, 3) := by decide +kernel
theorem dX9_readOrder_94 : decode cX9_readOrder 94 = .ok (.bipush 98, 2) := by decide +kernel
theorem dX9_readOrder_96 : decode cX9_readOrder 96 = .ok (.if_icmp .eq 31, 3) := by decide +kernel
theorem dX9_readOrder_99 : decode cX9_readOrder 99 = .ok (.aload_n 0, 1) := by decide +kernel
theorem dX9_readOrder_100 : decode cX9_readOrder 100 = .ok (.bipush 44, 2) := by decide +kernel
theorem dX9_readOrder_102 : decode cX9_readOrder 102 = .ok (.invokevirtual 237, 3) := by decide +kernel
theorem dX9_readOrder_105 : decode cX9_readOrder 105 = .ok (.ifCond .ne 5, 3) := by decide +kernel
theorem dX9_readOrder_108 : decode cX9_readOrder 108 = .ok (.iconst 0, 1) := by decide +kernel
theorem dX9_readOrder_109 : decode cX9_readOrder 109 = .ok (.ireturn, 1) := by decide +kernel
theorem dX9_readOrder_110 : decode cX9_readOrder 110 = .ok (.aload_n 0, 1) := by decide +kernel
theorem dX9_readOrder_111 : decode cX9_readOrder 111 = .ok (.aload_n 0, 1) := by decide +kernel
theorem dX9_readOrder_112 : decode cX9_readOrder 112 = .ok (.invokevirtual 240, 3) := by decide +kernel
theorem dX9_readOrder_115 : decode cX9_readOrder 115 = .ok (.putfield 234, 3) := by decide +kernel
theorem dX9_readOrder_118 : decode cX9_readOrder 118 = .ok (.aload_n 0, 1) := by decide +kernel
theorem dX9_readOrder_119 : decode cX9_readOrder 119 = .ok (.getfield 234, 3) := by decide +kernel
theorem dX9_readOrder_122 : decode cX9_readOrder 122 = .ok (.ifCond .ge 5, 3) := by decide +kernel
theorem dX9_readOrder_125 : decode cX9_readOrder 125 = .ok (.iconst 0, 1) := by decide +kernel
theorem dX9_readOrder_126 : decode cX9_readOrder 126 = .ok (.ireturn, 1) := by decide +kernel
theorem dX9_readOrder_127 : decode cX9_readOrder 127 = .ok (.aload_n 0, 1) := by decide +kernel
theorem dX9_readOrder_128 : decode cX9_readOrder 128 = .ok (.bipush 59, 2) := by decide +kernel
theorem dX9_readOrder_130 : decode cX9_readOrder 130 = .ok (.invokevirtual 237, 3) := by decide +kernel
theorem dX9_readOrder_133 : decode cX9_readOrder 133 = .ok (.ireturn, 1) := by decide +kernel
theorem dX9_does_0 : decode cX9_does 0 = .ok (.iconst 0, 1) := by decide +kernel
theorem dX9_does_1 : decode cX9_does 1 = .ok (.istore_n 1, 1) := by decide +kernel
theorem dX9_does_2 : decode cX9_does 2 = .ok (.aload_n 0, 1) := by decide +kernel
theorem dX9_does_3 : decode cX9_does 3 = .ok (.getfield 228, 3) := by decide +kernel
theorem dX9_does_6 : decode cX9_does 6 = .ok (.lookupswitch 121 #[(98, 97), (103, 34), (108, 66)], 34) := by decide +kernel
theorem dX9_does_40 : decode cX9_does 40 = .ok (.aload_n 0, 1) := by decide +kernel
theorem dX9_does_41 : decode cX9_does 41 = .ok (.aload_n 0, 1) := by decide +kernel
theorem dX9_does_42 : decode cX9_does 42 = .ok (.getfield 231, 3) := by decide +kernel
theorem dX9_does_45 : decode cX9_does 45 = .ok (.aload_n 0, 1) := by decide +kernel
theorem dX9_does_46 : decode cX9_does 46 = .ok (.getfield 234, 3) := by decide +kernel
theorem dX9_does_49 : decode cX9_does 49 = .ok (.invokevirtual 105, 3) := by decide +kernel
theorem dX9_does_52 : decode cX9_does 52 = .ok (.istore_n 1, 1) := by decide +kernel
theorem dX9_does_53 : decode cX9_does 53 = .ok (.iload_n 1, 1) := by decide +kernel
theorem dX9_does_54 : decode cX9_does 54 = .ok (.ifCond .ne 16, 3) := by decide +kernel
theorem dX9_does_57 : decode cX9_does 57 = .ok (.aload_n 0, 1) := by decide +kernel
theorem dX9_does_58 : decode cX9_does 58 = .ok (.aload_n 0, 1) := by decide +kernel
theorem dX9_does_59 : decode cX9_does 59 = .ok (.getfield 231, 3) := by decide +kernel
theorem dX9_does_62 : decode cX9_does 62 = .ok (.aload_n 0, 1) := by decide +kernel
theorem dX9_does_63 : decode cX9_does 63 = .ok (.getfield 234, 3) := by decide +kernel
theorem dX9_does_66 : decode cX9_does 66 = .ok (.iconst 1, 1) := by decide +kernel
theorem dX9_does_67 : decode cX9_does 67 = .ok (.invokevirtual 58, 3) := by decide +kernel
theorem dX9_does_70 : decode cX9_does 70 = .ok (.iload_n 1, 1) := by decide +kernel
theorem dX9_does_71 : decode cX9_does 71 = .ok (.ireturn, 1) := by decide +kernel
theorem dX9_does_72 : decode cX9_does 72 = .ok (.aload_n 0, 1) := by decide +kernel
theorem dX9_does_73 : decode cX9_does 73 = .ok (.aload_n 0, 1) := by decide +kernel
theorem dX9_does_74 : decode cX9_does 74 = .ok (.getfield 231, 3) := by decide +kernel
theorem dX9_does_77 : decode cX9_does 77 = .ok (.aload_n 0, 1) := by decide +kernel
theorem dX9_does_78 : decode cX9_does 78 = .ok (.getfield 234, 3) := by decide +kernel
theorem dX9_does_81 : decode cX9_does 81 = .ok (.invokevirtual 142, 3) := by decide +kernel
theorem dX9_does_84 : decode cX9_does 84 = .ok (.istore_n 1, 1) := by decide +kernel
theorem dX9_does_85 : decode cX9_does 85 = .ok (.iload_n 1, 1) := by decide +kernel
theorem dX9_does_86 : decode cX9_does 86 = .ok (.ifCond .ne 15, 3) := by decide +kernel
theorem dX9_does_89 : decode cX9_does 89 = .ok (.aload_n 0, 1) := by decide +kernel
theorem dX9_does_90 : decode cX9_does 90 = .ok (.aload_n 0, 1) := by decide +kernel
theorem dX9_does_91 : decode cX9_does 91 = .ok (.getfield 231, 3) := by decide +kernel
theorem dX9_does_94 : decode cX9_does 94 = .ok (.aload_n 0, 1) := by decide +kernel
theorem dX9_does_95 : decode cX9_does 95 = .ok (.getfield 234, 3) := by decide +kernel
theorem dX9_does_98 : decode cX9_does 98 = .ok (.invokevirtual 145, 3) := by decide +kernel
theorem dX9_does_101 : decode cX9_does 101 = .ok (.iload_n 1, 1) := by decide +kernel
theorem dX9_does_102 : decode cX9_does 102 = .ok (.ireturn, 1) := by decide +kernel
theorem dX9_does_103 : decode cX9_does 103 = .ok (.aload_n 0, 1) := by decide +kernel
theorem dX9_does_104 : decode cX9_does 104 = .ok (.aload_n 0, 1) := by decide +kernel
theorem dX9_does_105 : decode cX9_does 105 = .ok (.getfield 231, 3) := by decide +kernel
theorem dX9_does_108 : decode cX9_does 108 = .ok (.invokevirtual 156, 3) := by decide +kernel
theorem dX9_does_111 : decode cX9_does 111 = .ok (.istore_n 1, 1) := by decide +kernel
theorem dX9_does_112 : decode cX9_does 112 = .ok (.iload_n 1, 1) := by decide +kernel
theorem dX9_does_113 : decode cX9_does 113 = .ok (.ifCond .ne 12, 3) := by decide +kernel
theorem dX9_does_116 : decode cX9_does 116 = .ok (.aload_n 0, 1) := by decide +kernel
theorem dX9_does_117 : decode cX9_does 117 = .ok (.aload_n 0, 1) := by decide +kernel
theorem dX9_does_118 : decode cX9_does 118 = .ok (.getfield 231, 3) := by decide +kernel
theorem dX9_does_121 : decode cX9_does 121 = .ok (.invokevirtual 159, 3) := by decide +kernel
theorem dX9_does_124 : decode cX9_does 124 = .ok (.istore_n 2, 1) := by decide +kernel
theorem dX9_does_125 : decode cX9_does 125 = .ok (.iload_n 1, 1) := by decide +kernel
theorem dX9_does_126 : decode cX9_does 126 = .ok (.ireturn, 1) := by decide +kernel
theorem dX9_does_127 : decode cX9_does 127 = .ok (.aload_n 0, 1) := by decide +kernel
theorem dX9_does_128 : decode cX9_does 128 = .ok (.invokevirtual 176, 3) := by decide +kernel
theorem dX9_does_131 : decode cX9_does 131 = .ok (.istore_n 2, 1) := by decide +kernel
theorem dX9_does_132 : decode cX9_does 132 = .ok (.aload_n 0, 1) := by decide +kernel
theorem dX9_does_133 : decode cX9_does 133 = .ok (.invokevirtual 180, 3) := by decide +kernel
theorem dX9_does_136 : decode cX9_does 136 = .ok (.istore_n 3, 1) := by decide +kernel
theorem dX9_does_137 : decode cX9_does 137 = .ok (.iload_n 2, 1) := by decide +kernel
theorem dX9_does_138 : decode cX9_does 138 = .ok (.ifCond .lt 11, 3) := by decide +kernel
theorem dX9_does_141 : decode cX9_does 141 = .ok (.aload_n 0, 1) := by decide +kernel
theorem dX9_does_142 : decode cX9_does 142 = .ok (.iload_n 3, 1) := by decide +kernel
theorem dX9_does_143 : decode cX9_does 143 = .ok (.invokevirtual 183, 3) := by decide +kernel
theorem dX9_does_146 : decode cX9_does 146 = .ok (.ifCond .ne 7, 3) := by decide +kernel
theorem dX9_does_149 : decode cX9_does 149 = .ok (.iconst 3, 1) := by decide +kernel
theorem dX9_does_150 : decode cX9_does 150 = .ok (.goto 4, 3) := by decide +kernel
theorem dX9_does_153 : decode cX9_does 153 = .ok (.iconst 0, 1) := by decide +kernel
theorem dX9_does_154 : decode cX9_does 154 = .ok (.istore_n 1, 1) := by decide +kernel
theorem dX9_does_155 : decode cX9_does 155 = .ok (.iload_n 1, 1) := by decide +kernel
theorem dX9_does_156 : decode cX9_does 156 = .ok (.ifCond .ne 9, 3) := by decide +kernel
theorem dX9_does_159 : decode cX9_does 159 = .ok (.aload_n 0, 1) := by decide +kernel
theorem dX9_does_160 : decode cX9_does 160 = .ok (.iload_n 2, 1) := by decide +kernel
theorem dX9_does_161 : decode cX9_does 161 = .ok (.iload_n 3, 1) := by decide +kernel
theorem dX9_does_162 : decode cX9_does 162 = .ok (.invokevirtual 186, 3) := by decide +kernel
theorem dX9_does_165 : decode cX9_does 165 = .ok (.iload_n 1, 1) := by decide +kernel
theorem dX9_does_166 : decode cX9_does 166 = .ok (.ireturn, 1) := by decide +kernel
theorem dX9_runs_0 : decode cX9_runs 0 = .ok (.aload_n 0, 1) := by decide +kernel
theorem dX9_runs_1 : decode cX9_runs 1 = .ok (.iconst 0, 1) := by decide +kernel
theorem dX9_runs_2 : decode cX9_runs 2 = .ok (.putfield 222, 3) := by decide +kernel
theorem dX9_runs_5 : decode cX9_runs 5 = .ok (.aload_n 0, 1) := by decide +kernel
theorem dX9_runs_6 : decode cX9_runs 6 = .ok (.iconst 0, 1) := by decide +kernel
theorem dX9_runs_7 : decode cX9_runs 7 = .ok (.putfield 243, 3) := by decide +kernel
theorem dX9_runs_10 : decode cX9_runs 10 = .ok (.aload_n 0, 1) := by decide +kernel
theorem dX9_runs_11 : decode cX9_runs 11 = .ok (.getfield 222, 3) := by decide +kernel
theorem dX9_runs_14 : decode cX9_runs 14 = .ok (.aload_n 0, 1) := by decide +kernel
theorem dX9_runs_15 : decode cX9_runs 15 = .ok (.getfield 219, 3) := by decide +kernel
theorem dX9_runs_18 : decode cX9_runs 18 = .ok (.if_icmp .ge 49, 3) := by decide +kernel
theorem dX9_runs_21 : decode cX9_runs 21 = .ok (.aload_n 0, 1) := by decide +kernel
theorem dX9_runs_22 : decode cX9_runs 22 = .ok (.getfield 222, 3) := by decide +kernel
theorem dX9_runs_25 : decode cX9_runs 25 = .ok (.istore_n 1, 1) := by decide +kernel
theorem dX9_runs_26 : decode cX9_runs 26 = .ok (.aload_n 0, 1) := by decide +kernel
theorem dX9_runs_27 : decode cX9_runs 27 = .ok (.aload_n 0, 1) := by decide +kernel
theorem dX9_runs_28 : decode cX9_runs 28 = .ok (.invokevirtual 246, 3) := by decide +kernel
theorem dX9_runs_31 : decode cX9_runs 31 = .ok (.ifCond .eq 10, 3) := by decide +kernel
theorem dX9_runs_34 : decode cX9_runs 34 = .ok (.aload_n 0, 1) := by decide +kernel
theorem dX9_runs_35 : decode cX9_runs 35 = .ok (.invokevirtual 250, 3) := by decide +kernel
theorem dX9_runs_38 : decode cX9_runs 38 = .ok (.goto 4, 3) := by decide +kernel
theorem dX9_runs_41 : decode cX9_runs 41 = .ok (.iconst 1, 1) := by decide +kernel
theorem dX9_runs_42 : decode cX9_runs 42 = .ok (.putfield 253, 3) := by decide +kernel
theorem dX9_runs_45 : decode cX9_runs 45 = .ok (.aload_n 0, 1) := by decide +kernel
theorem dX9_runs_46 : decode cX9_runs 46 = .ok (.getfield 253, 3) := by decide +kernel
theorem dX9_runs_49 : decode cX9_runs 49 = .ok (.ifCond .eq 5, 3) := by decide +kernel
theorem dX9_runs_52 : decode cX9_runs 52 = .ok (.iload_n 1, 1) := by decide +kernel
theorem dX9_runs_53 : decode cX9_runs 53 = .ok (.ireturn, 1) := by decide +kernel
theorem dX9_runs_54 : decode cX9_runs 54 = .ok (.aload_n 0, 1) := by decide +kernel
theorem dX9_runs_55 : decode cX9_runs 55 = .ok (.dup, 1) := by decide +kernel
theorem dX9_runs_56 : decode cX9_runs 56 = .ok (.getfield 243, 3) := by decide +kernel
theorem dX9_runs_59 : decode cX9_runs 59 = .ok (.iconst 1, 1) := by decide +kernel
theorem dX9_runs_60 : decode cX9_runs 60 = .ok (.iadd, 1) := by decide +kernel
theorem dX9_runs_61 : decode cX9_runs 61 = .ok (.putfield 243, 3) := by decide +kernel
theorem dX9_runs_64 : decode cX9_runs 64 = .ok (.goto (-54), 3) := by decide +kernel
theorem dX9_runs_67 : decode cX9_runs 67 = .ok (.ldc 33, 2) := by decide +kernel
theorem dX9_runs_69 : decode cX9_runs 69 = .ok (.ireturn, 1) := by decide +kernel
theorem dX9_fault_0 : decode cX9_fault 0 = .ok (.iload_n 1, 1) := by decide +kernel
theorem dX9_fault_1 : decode cX9_fault 1 = .ok (.iconst 0, 1) := by decide +kernel
theorem dX9_fault_2 : decode cX9_fault 2 = .ok (.iconst 1, 1) := by decide +kernel
theorem dX9_fault_3 : decode cX9_fault 3 = .ok (.invokestatic 38, 3) := by decide +kernel
theorem dX9_fault_6 : decode cX9_fault 6 = .ok (.ifCond .ne 6, 3) := by decide +kernel
theorem dX9_fault_9 : decode cX9_fault 9 = .ok (.ldc 32, 2) := by decide +kernel
theorem dX9_fault_11 : decode cX9_fault 11 = .ok (.ireturn, 1) := by decide +kernel
theorem dX9_fault_12 : decode cX9_fault 12 = .ok (.aload_n 0, 1) := by decide +kernel
theorem dX9_fault_13 : decode cX9_fault 13 = .ok (.getfield 7, 3) := by decide +kernel
theorem dX9_fault_16 : decode cX9_fault 16 = .ok (.iconst 0, 1) := by decide +kernel
theorem dX9_fault_17 : decode cX9_fault 17 = .ok (.aload_n 0, 1) := by decide +kernel
theorem dX9_fault_18 : decode cX9_fault 18 = .ok (.getfield 16, 3) := by decide +kernel
theorem dX9_fault_21 : decode cX9_fault 21 = .ok (.iconst 0, 1) := by decide +kernel
theorem dX9_fault_22 : decode cX9_fault 22 = .ok (.invokestatic 28, 3) := by decide +kernel
theorem dX9_fault_25 : decode cX9_fault 25 = .ok (.aload_n 0, 1) := by decide +kernel
theorem dX9_fault_26 : decode cX9_fault 26 = .ok (.invokevirtual 256, 3) := by decide +kernel
theorem dX9_fault_29 : decode cX9_fault 29 = .ok (.istore_n 2, 1) := by decide +kernel
theorem dX9_fault_30 : decode cX9_fault 30 = .ok (.aload_n 0, 1) := by decide +kernel
theorem dX9_fault_31 : decode cX9_fault 31 = .ok (.getfield 16, 3) := by decide +kernel
theorem dX9_fault_34 : decode cX9_fault 34 = .ok (.iconst 0, 1) := by decide +kernel
theorem dX9_fault_35 : decode cX9_fault 35 = .ok (.aload_n 0, 1) := by decide +kernel
theorem dX9_fault_36 : decode cX9_fault 36 = .ok (.getfield 7, 3) := by decide +kernel
theorem dX9_fault_39 : decode cX9_fault 39 = .ok (.iconst 0, 1) := by decide +kernel
theorem dX9_fault_40 : decode cX9_fault 40 = .ok (.invokestatic 28, 3) := by decide +kernel
theorem dX9_fault_43 : decode cX9_fault 43 = .ok (.iload_n 2, 1) := by decide +kernel
theorem dX9_fault_44 : decode cX9_fault 44 = .ok (.ifCond .lt 7, 3) := by decide +kernel
theorem dX9_fault_47 : decode cX9_fault 47 = .ok (.iload_n 1, 1) := by decide +kernel
theorem dX9_fault_48 : decode cX9_fault 48 = .ok (.ifCond .ne 7, 3) := by decide +kernel
theorem dX9_fault_51 : decode cX9_fault 51 = .ok (.iload_n 2, 1) := by decide +kernel
theorem dX9_fault_52 : decode cX9_fault 52 = .ok (.goto 7, 3) := by decide +kernel
theorem dX9_fault_55 : decode cX9_fault 55 = .ok (.aload_n 0, 1) := by decide +kernel
theorem dX9_fault_56 : decode cX9_fault 56 = .ok (.getfield 253, 3) := by decide +kernel
theorem dX9_fault_59 : decode cX9_fault 59 = .ok (.ireturn, 1) := by decide +kernel
theorem dX9_play_0 : decode cX9_play 0 = .ok (.aload_n 0, 1) := by decide +kernel
theorem dX9_play_1 : decode cX9_play 1 = .ok (.invokevirtual 67, 3) := by decide +kernel
theorem dX9_play_4 : decode cX9_play 4 = .ok (.aload_n 0, 1) := by decide +kernel
theorem dX9_play_5 : decode cX9_play 5 = .ok (.invokevirtual 256, 3) := by decide +kernel
theorem dX9_play_8 : decode cX9_play 8 = .ok (.ifCond .lt 19, 3) := by decide +kernel
theorem dX9_play_11 : decode cX9_play 11 = .ok (.aload_n 0, 1) := by decide +kernel
theorem dX9_play_12 : decode cX9_play 12 = .ok (.getfield 13, 3) := by decide +kernel
theorem dX9_play_15 : decode cX9_play 15 = .ok (.iconst 0, 1) := by decide +kernel
theorem dX9_play_16 : decode cX9_play 16 = .ok (.aload_n 0, 1) := by decide +kernel
theorem dX9_play_17 : decode cX9_play 17 = .ok (.getfield 7, 3) := by decide +kernel
theorem dX9_play_20 : decode cX9_play 20 = .ok (.iconst 0, 1) := by decide +kernel
theorem dX9_play_21 : decode cX9_play 21 = .ok (.invokestatic 28, 3) := by decide +kernel
theorem dX9_play_24 : decode cX9_play 24 = .ok (.ldc 78, 2) := by decide +kernel
theorem dX9_play_26 : decode cX9_play 26 = .ok (.ireturn, 1) := by decide +kernel
theorem dX9_play_27 : decode cX9_play 27 = .ok (.aload_n 0, 1) := by decide +kernel
theorem dX9_play_28 : decode cX9_play 28 = .ok (.aload_n 0, 1) := by decide +kernel
theorem dX9_play_29 : decode cX9_play 29 = .ok (.getfield 243, 3) := by decide +kernel
theorem dX9_play_32 : decode cX9_play 32 = .ok (.invokevirtual 70, 3) := by decide +kernel
theorem dX9_play_35 : decode cX9_play 35 = .ok (.ireturn, 1) := by decide +kernel
