theorem dX0_init_0 : decode cX0_init 0 = .ok (.aload_n 0, 1) := by decide +kernel
theorem dX0_init_1 : decode cX0_init 1 = .ok (.invokespecial 3, 3) := by decide +kernel
theorem dX0_init_4 : decode cX0_init 4 = .ok (.aload_n 0, 1) := by decide +kernel
theorem dX0_init_5 : decode cX0_init 5 = .ok (.iconst 5, 1) := by decide +kernel
theorem dX0_init_6 : decode cX0_init 6 = .ok (.anewarray 9, 3) := by decide +kernel
theorem dX0_init_9 : decode cX0_init 9 = .ok (.putfield 11, 3) := by decide +kernel
theorem dX0_init_12 : decode cX0_init 12 = .ok (.iconst 0, 1) := by decide +kernel
theorem dX0_init_13 : decode cX0_init 13 = .ok (.istore_n 1, 1) := by decide +kernel
theorem dX0_init_14 : decode cX0_init 14 = .ok (.iload_n 1, 1) := by decide +kernel
theorem dX0_init_15 : decode cX0_init 15 = .ok (.iconst 4, 1) := by decide +kernel
theorem dX0_init_16 : decode cX0_init 16 = .ok (.if_icmp .gt 22, 3) := by decide +kernel
theorem dX0_init_19 : decode cX0_init 19 = .ok (.aload_n 0, 1) := by decide +kernel
theorem dX0_init_20 : decode cX0_init 20 = .ok (.getfield 11, 3) := by decide +kernel
theorem dX0_init_23 : decode cX0_init 23 = .ok (.iload_n 1, 1) := by decide +kernel
theorem dX0_init_24 : decode cX0_init 24 = .ok (.new 9, 3) := by decide +kernel
theorem dX0_init_27 : decode cX0_init 27 = .ok (.dup, 1) := by decide +kernel
theorem dX0_init_28 : decode cX0_init 28 = .ok (.invokespecial 17, 3) := by decide +kernel
theorem dX0_init_31 : decode cX0_init 31 = .ok (.aastore, 1) := by decide +kernel
theorem dX0_init_32 : decode cX0_init 32 = .ok (.iinc 1 1, 3) := by decide +kernel
theorem dX0_init_35 : decode cX0_init 35 = .ok (.goto (-21), 3) := by decide +kernel
theorem dX0_init_38 : decode cX0_init 38 = .ok (.return_, 1) := by decide +kernel
theorem dX0_copyPresent_0 : decode cX0_copyPresent 0 = .ok (.aload_n 0, 1) := by decide +kernel
theorem dX0_copyPresent_1 : decode cX0_copyPresent 1 = .ok (.getfield 18, 3) := by decide +kernel
theorem dX0_copyPresent_4 : decode cX0_copyPresent 4 = .ok (.ifCond .lt 24, 3) := by decide +kernel
theorem dX0_copyPresent_7 : decode cX0_copyPresent 7 = .ok (.aload_n 0, 1) := by decide +kernel
theorem dX0_copyPresent_8 : decode cX0_copyPresent 8 = .ok (.getfield 18, 3) := by decide +kernel
theorem dX0_copyPresent_11 : decode cX0_copyPresent 11 = .ok (.iconst 4, 1) := by decide +kernel
theorem dX0_copyPresent_12 : decode cX0_copyPresent 12 = .ok (.if_icmp .gt 16, 3) := by decide +kernel
theorem dX0_copyPresent_15 : decode cX0_copyPresent 15 = .ok (.aload_n 0, 1) := by decide +kernel
theorem dX0_copyPresent_16 : decode cX0_copyPresent 16 = .ok (.getfield 11, 3) := by decide +kernel
theorem dX0_copyPresent_19 : decode cX0_copyPresent 19 = .ok (.aload_n 0, 1) := by decide +kernel
theorem dX0_copyPresent_20 : decode cX0_copyPresent 20 = .ok (.getfield 18, 3) := by decide +kernel
theorem dX0_copyPresent_23 : decode cX0_copyPresent 23 = .ok (.aaload, 1) := by decide +kernel
theorem dX0_copyPresent_24 : decode cX0_copyPresent 24 = .ok (.aload_n 1, 1) := by decide +kernel
theorem dX0_copyPresent_25 : decode cX0_copyPresent 25 = .ok (.invokevirtual 22, 3) := by decide +kernel
theorem dX0_copyPresent_28 : decode cX0_copyPresent 28 = .ok (.return_, 1) := by decide +kernel
theorem dX0_keepCopy_0 : decode cX0_keepCopy 0 = .ok (.aload_n 0, 1) := by decide +kernel
theorem dX0_keepCopy_1 : decode cX0_keepCopy 1 = .ok (.getfield 18, 3) := by decide +kernel
theorem dX0_keepCopy_4 : decode cX0_keepCopy 4 = .ok (.iconst 4, 1) := by decide +kernel
theorem dX0_keepCopy_5 : decode cX0_keepCopy 5 = .ok (.if_icmp .ge 14, 3) := by decide +kernel
theorem dX0_keepCopy_8 : decode cX0_keepCopy 8 = .ok (.aload_n 0, 1) := by decide +kernel
theorem dX0_keepCopy_9 : decode cX0_keepCopy 9 = .ok (.dup, 1) := by decide +kernel
theorem dX0_keepCopy_10 : decode cX0_keepCopy 10 = .ok (.getfield 18, 3) := by decide +kernel
theorem dX0_keepCopy_13 : decode cX0_keepCopy 13 = .ok (.iconst 1, 1) := by decide +kernel
theorem dX0_keepCopy_14 : decode cX0_keepCopy 14 = .ok (.iadd, 1) := by decide +kernel
theorem dX0_keepCopy_15 : decode cX0_keepCopy 15 = .ok (.putfield 18, 3) := by decide +kernel
theorem dX0_keepCopy_18 : decode cX0_keepCopy 18 = .ok (.return_, 1) := by decide +kernel
theorem dX0_keepCopy_19 : decode cX0_keepCopy 19 = .ok (.aload_n 0, 1) := by decide +kernel
theorem dX0_keepCopy_20 : decode cX0_keepCopy 20 = .ok (.getfield 11, 3) := by decide +kernel
theorem dX0_keepCopy_23 : decode cX0_keepCopy 23 = .ok (.iconst 0, 1) := by decide +kernel
theorem dX0_keepCopy_24 : decode cX0_keepCopy 24 = .ok (.aaload, 1) := by decide +kernel
theorem dX0_keepCopy_25 : decode cX0_keepCopy 25 = .ok (.astore_n 1, 1) := by decide +kernel
theorem dX0_keepCopy_26 : decode cX0_keepCopy 26 = .ok (.iconst 0, 1) := by decide +kernel
theorem dX0_keepCopy_27 : decode cX0_keepCopy 27 = .ok (.istore_n 2, 1) := by decide +kernel
theorem dX0_keepCopy_28 : decode cX0_keepCopy 28 = .ok (.iload_n 2, 1) := by decide +kernel
theorem dX0_keepCopy_29 : decode cX0_keepCopy 29 = .ok (.iconst 4, 1) := by decide +kernel
theorem dX0_keepCopy_30 : decode cX0_keepCopy 30 = .ok (.if_icmp .ge 23, 3) := by decide +kernel
theorem dX0_keepCopy_33 : decode cX0_keepCopy 33 = .ok (.aload_n 0, 1) := by decide +kernel
theorem dX0_keepCopy_34 : decode cX0_keepCopy 34 = .ok (.getfield 11, 3) := by decide +kernel
theorem dX0_keepCopy_37 : decode cX0_keepCopy 37 = .ok (.iload_n 2, 1) := by decide +kernel
theorem dX0_keepCopy_38 : decode cX0_keepCopy 38 = .ok (.aload_n 0, 1) := by decide +kernel
theorem dX0_keepCopy_39 : decode cX0_keepCopy 39 = .ok (.getfield 11, 3) := by decide +kernel
theorem dX0_keepCopy_42 : decode cX0_keepCopy 42 = .ok (.iload_n 2, 1) := by decide +kernel
theorem dX0_keepCopy_43 : decode cX0_keepCopy 43 = .ok (.iconst 1, 1) := by decide +kernel
theorem dX0_keepCopy_44 : decode cX0_keepCopy 44 = .ok (.iadd, 1) := by decide +kernel
theorem dX0_keepCopy_45 : decode cX0_keepCopy 45 = .ok (.aaload, 1) := by decide +kernel
theorem dX0_keepCopy_46 : decode cX0_keepCopy 46 = .ok (.aastore, 1) := by decide +kernel
theorem dX0_keepCopy_47 : decode cX0_keepCopy 47 = .ok (.iinc 2 1, 3) := by decide +kernel
theorem dX0_keepCopy_50 : decode cX0_keepCopy 50 = .ok (.goto (-22), 3) := by decide +kernel
theorem dX0_keepCopy_53 : decode cX0_keepCopy 53 = .ok (.aload_n 0, 1) := by decide +kernel
theorem dX0_keepCopy_54 : decode cX0_keepCopy 54 = .ok (.getfield 11, 3) := by decide +kernel
theorem dX0_keepCopy_57 : decode cX0_keepCopy 57 = .ok (.iconst 4, 1) := by decide +kernel
theorem dX0_keepCopy_58 : decode cX0_keepCopy 58 = .ok (.aload_n 1, 1) := by decide +kernel
theorem dX0_keepCopy_59 : decode cX0_keepCopy 59 = .ok (.aastore, 1) := by decide +kernel
theorem dX0_keepCopy_60 : decode cX0_keepCopy 60 = .ok (.return_, 1) := by decide +kernel
theorem dX0_restore_0 : decode cX0_restore 0 = .ok (.aload_n 0, 1) := by decide +kernel
theorem dX0_restore_1 : decode cX0_restore 1 = .ok (.getfield 18, 3) := by decide +kernel
theorem dX0_restore_4 : decode cX0_restore 4 = .ok (.iconst 1, 1) := by decide +kernel
theorem dX0_restore_5 : decode cX0_restore 5 = .ok (.if_icmp .lt 11, 3) := by decide +kernel
theorem dX0_restore_8 : decode cX0_restore 8 = .ok (.aload_n 0, 1) := by decide +kernel
theorem dX0_restore_9 : decode cX0_restore 9 = .ok (.getfield 18, 3) := by decide +kernel
theorem dX0_restore_12 : decode cX0_restore 12 = .ok (.iconst 4, 1) := by decide +kernel
theorem dX0_restore_13 : decode cX0_restore 13 = .ok (.if_icmp .le 6, 3) := by decide +kernel
theorem dX0_restore_16 : decode cX0_restore 16 = .ok (.ldc 26, 2) := by decide +kernel
theorem dX0_restore_18 : decode cX0_restore 18 = .ok (.ireturn, 1) := by decide +kernel
theorem dX0_restore_19 : decode cX0_restore 19 = .ok (.aload_n 0, 1) := by decide +kernel
theorem dX0_restore_20 : decode cX0_restore 20 = .ok (.dup, 1) := by decide +kernel
theorem dX0_restore_21 : decode cX0_restore 21 = .ok (.getfield 18, 3) := by decide +kernel
theorem dX0_restore_24 : decode cX0_restore 24 = .ok (.iconst 1, 1) := by decide +kernel
theorem dX0_restore_25 : decode cX0_restore 25 = .ok (.isub, 1) := by decide +kernel
theorem dX0_restore_26 : decode cX0_restore 26 = .ok (.putfield 18, 3) := by decide +kernel
theorem dX0_restore_29 : decode cX0_restore 29 = .ok (.aload_n 1, 1) := by decide +kernel
theorem dX0_restore_30 : decode cX0_restore 30 = .ok (.aload_n 0, 1) := by decide +kernel
theorem dX0_restore_31 : decode cX0_restore 31 = .ok (.getfield 11, 3) := by decide +kernel
theorem dX0_restore_34 : decode cX0_restore 34 = .ok (.aload_n 0, 1) := by decide +kernel
theorem dX0_restore_35 : decode cX0_restore 35 = .ok (.getfield 18, 3) := by decide +kernel
theorem dX0_restore_38 : decode cX0_restore 38 = .ok (.aaload, 1) := by decide +kernel
theorem dX0_restore_39 : decode cX0_restore 39 = .ok (.invokevirtual 22, 3) := by decide +kernel
theorem dX0_restore_42 : decode cX0_restore 42 = .ok (.aload_n 0, 1) := by decide +kernel
theorem dX0_restore_43 : decode cX0_restore 43 = .ok (.getfield 18, 3) := by decide +kernel
theorem dX0_restore_46 : decode cX0_restore 46 = .ok (.ireturn, 1) := by decide +kernel
theorem dX1_init_0 : decode cX1_init 0 = .ok (.aload_n 0, 1) := by decide +kernel
theorem dX1_init_1 : decode cX1_init 1 = .ok (.invokespecial 3, 3) := by decide +kernel
theorem dX1_init_4 : decode cX1_init 4 = .ok (.aload_n 0, 1) := by decide +kernel
theorem dX1_init_5 : decode cX1_init 5 = .ok (.bipush 12, 2) := by decide +kernel
theorem dX1_init_7 : decode cX1_init 7 = .ok (.newarray .int, 2) := by decide +kernel
theorem dX1_init_9 : decode cX1_init 9 = .ok (.putfield 9, 3) := by decide +kernel
theorem dX1_init_12 : decode cX1_init 12 = .ok (.return_, 1) := by decide +kernel
theorem dX1_copyFrom_0 : decode cX1_copyFrom 0 = .ok (.aload_n 1, 1) := by decide +kernel
theorem dX1_copyFrom_1 : decode cX1_copyFrom 1 = .ok (.getfield 9, 3) := by decide +kernel
theorem dX1_copyFrom_4 : decode cX1_copyFrom 4 = .ok (.iconst 0, 1) := by decide +kernel
theorem dX1_copyFrom_5 : decode cX1_copyFrom 5 = .ok (.aload_n 0, 1) := by decide +kernel
theorem dX1_copyFrom_6 : decode cX1_copyFrom 6 = .ok (.getfield 9, 3) := by decide +kernel
theorem dX1_copyFrom_9 : decode cX1_copyFrom 9 = .ok (.iconst 0, 1) := by decide +kernel
theorem dX1_copyFrom_10 : decode cX1_copyFrom 10 = .ok (.bipush 12, 2) := by decide +kernel
theorem dX1_copyFrom_12 : decode cX1_copyFrom 12 = .ok (.invokestatic 15, 3) := by decide +kernel
theorem dX1_copyFrom_15 : decode cX1_copyFrom 15 = .ok (.return_, 1) := by decide +kernel
theorem dX1_isThere_0 : decode cX1_isThere 0 = .ok (.aload_n 0, 1) := by decide +kernel
theorem dX1_isThere_1 : decode cX1_isThere 1 = .ok (.getfield 9, 3) := by decide +kernel
theorem dX1_isThere_4 : decode cX1_isThere 4 = .ok (.iconst 0, 1) := by decide +kernel
theorem dX1_isThere_5 : decode cX1_isThere 5 = .ok (.iaload, 1) := by decide +kernel
theorem dX1_isThere_6 : decode cX1_isThere 6 = .ok (.ifCond .ne 7, 3) := by decide +kernel
theorem dX1_isThere_9 : decode cX1_isThere 9 = .ok (.iconst 1, 1) := by decide +kernel
theorem dX1_isThere_10 : decode cX1_isThere 10 = .ok (.goto 4, 3) := by decide +kernel
theorem dX1_isThere_13 : decode cX1_isThere 13 = .ok (.iconst 0, 1) := by decide +kernel
theorem dX1_isThere_14 : decode cX1_isThere 14 = .ok (.ireturn, 1) := by decide +kernel
theorem dX1_isGone_0 : decode cX1_isGone 0 = .ok (.aload_n 0, 1) := by decide +kernel
theorem dX1_isGone_1 : decode cX1_isGone 1 = .ok (.getfield 9, 3) := by decide +kernel
theorem dX1_isGone_4 : decode cX1_isGone 4 = .ok (.iconst 0, 1) := by decide +kernel
theorem dX1_isGone_5 : decode cX1_isGone 5 = .ok (.iaload, 1) := by decide +kernel
theorem dX1_isGone_6 : decode cX1_isGone 6 = .ok (.iconst 2, 1) := by decide +kernel
theorem dX1_isGone_7 : decode cX1_isGone 7 = .ok (.if_icmp .ne 7, 3) := by decide +kernel
theorem dX1_isGone_10 : decode cX1_isGone 10 = .ok (.iconst 1, 1) := by decide +kernel
theorem dX1_isGone_11 : decode cX1_isGone 11 = .ok (.goto 4, 3) := by decide +kernel
theorem dX1_isGone_14 : decode cX1_isGone 14 = .ok (.iconst 0, 1) := by decide +kernel
theorem dX1_isGone_15 : decode cX1_isGone 15 = .ok (.ireturn, 1) := by decide +kernel
theorem dX1_openInAll_0 : decode cX1_openInAll 0 = .ok (.iconst 0, 1) := by decide +kernel
theorem dX1_openInAll_1 : decode cX1_openInAll 1 = .ok (.istore_n 1, 1) := by decide +kernel
theorem dX1_openInAll_2 : decode cX1_openInAll 2 = .ok (.iconst 0, 1) := by decide +kernel
theorem dX1_openInAll_3 : decode cX1_openInAll 3 = .ok (.istore_n 2, 1) := by decide +kernel
theorem dX1_openInAll_4 : decode cX1_openInAll 4 = .ok (.iload_n 2, 1) := by decide +kernel
theorem dX1_openInAll_5 : decode cX1_openInAll 5 = .ok (.iconst 3, 1) := by decide +kernel
theorem dX1_openInAll_6 : decode cX1_openInAll 6 = .ok (.if_icmp .ge 21, 3) := by decide +kernel
theorem dX1_openInAll_9 : decode cX1_openInAll 9 = .ok (.iload_n 1, 1) := by decide +kernel
theorem dX1_openInAll_10 : decode cX1_openInAll 10 = .ok (.aload_n 0, 1) := by decide +kernel
theorem dX1_openInAll_11 : decode cX1_openInAll 11 = .ok (.getfield 9, 3) := by decide +kernel
theorem dX1_openInAll_14 : decode cX1_openInAll 14 = .ok (.bipush 8, 2) := by decide +kernel
theorem dX1_openInAll_16 : decode cX1_openInAll 16 = .ok (.iload_n 2, 1) := by decide +kernel
theorem dX1_openInAll_17 : decode cX1_openInAll 17 = .ok (.iadd, 1) := by decide +kernel
theorem dX1_openInAll_18 : decode cX1_openInAll 18 = .ok (.iaload, 1) := by decide +kernel
theorem dX1_openInAll_19 : decode cX1_openInAll 19 = .ok (.iadd, 1) := by decide +kernel
theorem dX1_openInAll_20 : decode cX1_openInAll 20 = .ok (.istore_n 1, 1) := by decide +kernel
theorem dX1_openInAll_21 : decode cX1_openInAll 21 = .ok (.iinc 2 1, 3) := by decide +kernel
theorem dX1_openInAll_24 : decode cX1_openInAll 24 = .ok (.goto (-20), 3) := by decide +kernel
theorem dX1_openInAll_27 : decode cX1_openInAll 27 = .ok (.iload_n 1, 1) := by decide +kernel
theorem dX1_openInAll_28 : decode cX1_openInAll 28 = .ok (.ireturn, 1) := by decide +kernel
theorem dX1_gainGiven_0 : decode cX1_gainGiven 0 = .ok (.aload_n 0, 1) := by decide +kernel
theorem dX1_gainGiven_1 : decode cX1_gainGiven 1 = .ok (.getfield 9, 3) := by decide +kernel
theorem dX1_gainGiven_4 : decode cX1_gainGiven 4 = .ok (.iconst 1, 1) := by decide +kernel
theorem dX1_gainGiven_5 : decode cX1_gainGiven 5 = .ok (.dup2, 1) := by decide +kernel
theorem dX1_gainGiven_6 : decode cX1_gainGiven 6 = .ok (.iaload, 1) := by decide +kernel
theorem dX1_gainGiven_7 : decode cX1_gainGiven 7 = .ok (.iload_n 1, 1) := by decide +kernel
theorem dX1_gainGiven_8 : decode cX1_gainGiven 8 = .ok (.iadd, 1) := by decide +kernel
theorem dX1_gainGiven_9 : decode cX1_gainGiven 9 = .ok (.iastore, 1) := by decide +kernel
theorem dX1_gainGiven_10 : decode cX1_gainGiven 10 = .ok (.aload_n 0, 1) := by decide +kernel
theorem dX1_gainGiven_11 : decode cX1_gainGiven 11 = .ok (.iload_n 1, 1) := by decide +kernel
theorem dX1_gainGiven_12 : decode cX1_gainGiven 12 = .ok (.invokevirtual 21, 3) := by decide +kernel
theorem dX1_gainGiven_15 : decode cX1_gainGiven 15 = .ok (.return_, 1) := by decide +kernel
theorem dX1_gainShared_0 : decode cX1_gainShared 0 = .ok (.aload_n 0, 1) := by decide +kernel
theorem dX1_gainShared_1 : decode cX1_gainShared 1 = .ok (.getfield 9, 3) := by decide +kernel
theorem dX1_gainShared_4 : decode cX1_gainShared 4 = .ok (.iconst 2, 1) := by decide +kernel
theorem dX1_gainShared_5 : decode cX1_gainShared 5 = .ok (.dup2, 1) := by decide +kernel
theorem dX1_gainShared_6 : decode cX1_gainShared 6 = .ok (.iaload, 1) := by decide +kernel
theorem dX1_gainShared_7 : decode cX1_gainShared 7 = .ok (.iload_n 1, 1) := by decide +kernel
theorem dX1_gainShared_8 : decode cX1_gainShared 8 = .ok (.iadd, 1) := by decide +kernel
theorem dX1_gainShared_9 : decode cX1_gainShared 9 = .ok (.iastore, 1) := by decide +kernel
theorem dX1_gainShared_10 : decode cX1_gainShared 10 = .ok (.aload_n 0, 1) := by decide +kernel
theorem dX1_gainShared_11 : decode cX1_gainShared 11 = .ok (.iload_n 1, 1) := by decide +kernel
theorem dX1_gainShared_12 : decode cX1_gainShared 12 = .ok (.invokevirtual 21, 3) := by decide +kernel
theorem dX1_gainShared_15 : decode cX1_gainShared 15 = .ok (.return_, 1) := by decide +kernel
theorem dX1_payOpen_0 : decode cX1_payOpen 0 = .ok (.iload_n 1, 1) := by decide +kernel
theorem dX1_payOpen_1 : decode cX1_payOpen 1 = .ok (.istore_n 2, 1) := by decide +kernel
theorem dX1_payOpen_2 : decode cX1_payOpen 2 = .ok (.iconst 0, 1) := by decide +kernel
theorem dX1_payOpen_3 : decode cX1_payOpen 3 = .ok (.istore_n 3, 1) := by decide +kernel
theorem dX1_payOpen_4 : decode cX1_payOpen 4 = .ok (.iload_n 3, 1) := by decide +kernel
theorem dX1_payOpen_5 : decode cX1_payOpen 5 = .ok (.iconst 3, 1) := by decide +kernel
theorem dX1_payOpen_6 : decode cX1_payOpen 6 = .ok (.if_icmp .ge 56, 3) := by decide +kernel
theorem dX1_payOpen_9 : decode cX1_payOpen 9 = .ok (.iload_n 2, 1) := by decide +kernel
theorem dX1_payOpen_10 : decode cX1_payOpen 10 = .ok (.aload_n 0, 1) := by decide +kernel
theorem dX1_payOpen_11 : decode cX1_payOpen 11 = .ok (.getfield 9, 3) := by decide +kernel
theorem dX1_payOpen_14 : decode cX1_payOpen 14 = .ok (.bipush 8, 2) := by decide +kernel
theorem dX1_payOpen_16 : decode cX1_payOpen 16 = .ok (.iload_n 3, 1) := by decide +kernel
theorem dX1_payOpen_17 : decode cX1_payOpen 17 = .ok (.iadd, 1) := by decide +kernel
theorem dX1_payOpen_18 : decode cX1_payOpen 18 = .ok (.iaload, 1) := by decide +kernel
theorem dX1_payOpen_19 : decode cX1_payOpen 19 = .ok (.invokestatic 25, 3) := by decide +kernel
theorem dX1_payOpen_22 : decode cX1_payOpen 22 = .ok (.istore 4, 2) := by decide +kernel
theorem dX1_payOpen_24 : decode cX1_payOpen 24 = .ok (.aload_n 0, 1) := by decide +kernel
theorem dX1_payOpen_25 : decode cX1_payOpen 25 = .ok (.getfield 9, 3) := by decide +kernel
theorem dX1_payOpen_28 : decode cX1_payOpen 28 = .ok (.bipush 8, 2) := by decide +kernel
theorem dX1_payOpen_30 : decode cX1_payOpen 30 = .ok (.iload_n 3, 1) := by decide +kernel
theorem dX1_payOpen_31 : decode cX1_payOpen 31 = .ok (.iadd, 1) := by decide +kernel
theorem dX1_payOpen_32 : decode cX1_payOpen 32 = .ok (.dup2, 1) := by decide +kernel
theorem dX1_payOpen_33 : decode cX1_payOpen 33 = .ok (.iaload, 1) := by decide +kernel
theorem dX1_payOpen_34 : decode cX1_payOpen 34 = .ok (.iload 4, 2) := by decide +kernel
theorem dX1_payOpen_36 : decode cX1_payOpen 36 = .ok (.isub, 1) := by decide +kernel
theorem dX1_payOpen_37 : decode cX1_payOpen 37 = .ok (.iastore, 1) := by decide +kernel
theorem dX1_payOpen_38 : decode cX1_payOpen 38 = .ok (.aload_n 0, 1) := by decide +kernel
theorem dX1_payOpen_39 : decode cX1_payOpen 39 = .ok (.getfield 9, 3) := by decide +kernel
theorem dX1_payOpen_42 : decode cX1_payOpen 42 = .ok (.iconst 5, 1) := by decide +kernel
theorem dX1_payOpen_43 : decode cX1_payOpen 43 = .ok (.iload_n 3, 1) := by decide +kernel
theorem dX1_payOpen_44 : decode cX1_payOpen 44 = .ok (.iadd, 1) := by decide +kernel
theorem dX1_payOpen_45 : decode cX1_payOpen 45 = .ok (.dup2, 1) := by decide +kernel
theorem dX1_payOpen_46 : decode cX1_payOpen 46 = .ok (.iaload, 1) := by decide +kernel
theorem dX1_payOpen_47 : decode cX1_payOpen 47 = .ok (.iload 4, 2) := by decide +kernel
theorem dX1_payOpen_49 : decode cX1_payOpen 49 = .ok (.iadd, 1) := by decide +kernel
theorem dX1_payOpen_50 : decode cX1_payOpen 50 = .ok (.iastore, 1) := by decide +kernel
theorem dX1_payOpen_51 : decode cX1_payOpen 51 = .ok (.iload_n 2, 1) := by decide +kernel
theorem dX1_payOpen_52 : decode cX1_payOpen 52 = .ok (.iload 4, 2) := by decide +kernel
theorem dX1_payOpen_54 : decode cX1_payOpen 54 = .ok (.isub, 1) := by decide +kernel
theorem dX1_payOpen_55 : decode cX1_payOpen 55 = .ok (.istore_n 2, 1) := by decide +kernel
theorem dX1_payOpen_56 : decode cX1_payOpen 56 = .ok (.iinc 3 1, 3) := by decide +kernel
theorem dX1_payOpen_59 : decode cX1_payOpen 59 = .ok (.goto (-55), 3) := by decide +kernel
theorem dX1_payOpen_62 : decode cX1_payOpen 62 = .ok (.aload_n 0, 1) := by decide +kernel
theorem dX1_payOpen_63 : decode cX1_payOpen 63 = .ok (.getfield 9, 3) := by decide +kernel
theorem dX1_payOpen_66 : decode cX1_payOpen 66 = .ok (.iconst 3, 1) := by decide +kernel
theorem dX1_payOpen_67 : decode cX1_payOpen 67 = .ok (.dup2, 1) := by decide +kernel
theorem dX1_payOpen_68 : decode cX1_payOpen 68 = .ok (.iaload, 1) := by decide +kernel
theorem dX1_payOpen_69 : decode cX1_payOpen 69 = .ok (.iload_n 2, 1) := by decide +kernel
theorem dX1_payOpen_70 : decode cX1_payOpen 70 = .ok (.iadd, 1) := by decide +kernel
theorem dX1_payOpen_71 : decode cX1_payOpen 71 = .ok (.iastore, 1) := by decide +kernel
theorem dX1_payOpen_72 : decode cX1_payOpen 72 = .ok (.return_, 1) := by decide +kernel
theorem dX1_charge_0 : decode cX1_charge 0 = .ok (.iload_n 1, 1) := by decide +kernel
theorem dX1_charge_1 : decode cX1_charge 1 = .ok (.ifCond .lt 8, 3) := by decide +kernel
theorem dX1_charge_4 : decode cX1_charge 4 = .ok (.iload_n 1, 1) := by decide +kernel
theorem dX1_charge_5 : decode cX1_charge 5 = .ok (.iconst 3, 1) := by decide +kernel
theorem dX1_charge_6 : decode cX1_charge 6 = .ok (.if_icmp .lt 4, 3) := by decide +kernel
theorem dX1_charge_9 : decode cX1_charge 9 = .ok (.return_, 1) := by decide +kernel
theorem dX1_charge_10 : decode cX1_charge 10 = .ok (.aload_n 0, 1) := by decide +kernel
theorem dX1_charge_11 : decode cX1_charge 11 = .ok (.getfield 9, 3) := by decide +kernel
theorem dX1_charge_14 : decode cX1_charge 14 = .ok (.iconst 3, 1) := by decide +kernel
theorem dX1_charge_15 : decode cX1_charge 15 = .ok (.iaload, 1) := by decide +kernel
theorem dX1_charge_16 : decode cX1_charge 16 = .ok (.iload_n 2, 1) := by decide +kernel
theorem dX1_charge_17 : decode cX1_charge 17 = .ok (.invokestatic 25, 3) := by decide +kernel
theorem dX1_charge_20 : decode cX1_charge 20 = .ok (.istore_n 3, 1) := by decide +kernel
theorem dX1_charge_21 : decode cX1_charge 21 = .ok (.aload_n 0, 1) := by decide +kernel
theorem dX1_charge_22 : decode cX1_charge 22 = .ok (.getfield 9, 3) := by decide +kernel
theorem dX1_charge_25 : decode cX1_charge 25 = .ok (.iconst 3, 1) := by decide +kernel
theorem dX1_charge_26 : decode cX1_charge 26 = .ok (.dup2, 1) := by decide +kernel
theorem dX1_charge_27 : decode cX1_charge 27 = .ok (.iaload, 1) := by decide +kernel
theorem dX1_charge_28 : decode cX1_charge 28 = .ok (.iload_n 3, 1) := by decide +kernel
theorem dX1_charge_29 : decode cX1_charge 29 = .ok (.isub, 1) := by decide +kernel
theorem dX1_charge_30 : decode cX1_charge 30 = .ok (.iastore, 1) := by decide +kernel
theorem dX1_charge_31 : decode cX1_charge 31 = .ok (.aload_n 0, 1) := by decide +kernel
theorem dX1_charge_32 : decode cX1_charge 32 = .ok (.getfield 9, 3) := by decide +kernel
theorem dX1_charge_35 : decode cX1_charge 35 = .ok (.iconst 5, 1) := by decide +kernel
theorem dX1_charge_36 : decode cX1_charge 36 = .ok (.iload_n 1, 1) := by decide +kernel
theorem dX1_charge_37 : decode cX1_charge 37 = .ok (.iadd, 1) := by decide +kernel
theorem dX1_charge_38 : decode cX1_charge 38 = .ok (.dup2, 1) := by decide +kernel
theorem dX1_charge_39 : decode cX1_charge 39 = .ok (.iaload, 1) := by decide +kernel
theorem dX1_charge_40 : decode cX1_charge 40 = .ok (.iload_n 3, 1) := by decide +kernel
theorem dX1_charge_41 : decode cX1_charge 41 = .ok (.iadd, 1) := by decide +kernel
theorem dX1_charge_42 : decode cX1_charge 42 = .ok (.iastore, 1) := by decide +kernel
theorem dX1_charge_43 : decode cX1_charge 43 = .ok (.aload_n 0, 1) := by decide +kernel
theorem dX1_charge_44 : decode cX1_charge 44 = .ok (.getfield 9, 3) := by decide +kernel
theorem dX1_charge_47 : decode cX1_charge 47 = .ok (.bipush 8, 2) := by decide +kernel
theorem dX1_charge_49 : decode cX1_charge 49 = .ok (.iload_n 1, 1) := by decide +kernel
theorem dX1_charge_50 : decode cX1_charge 50 = .ok (.iadd, 1) := by decide +kernel
theorem dX1_charge_51 : decode cX1_charge 51 = .ok (.dup2, 1) := by decide +kernel
theorem dX1_charge_52 : decode cX1_charge 52 = .ok (.iaload, 1) := by decide +kernel
theorem dX1_charge_53 : decode cX1_charge 53 = .ok (.iload_n 2, 1) := by decide +kernel
theorem dX1_charge_54 : decode cX1_charge 54 = .ok (.iload_n 3, 1) := by decide +kernel
theorem dX1_charge_55 : decode cX1_charge 55 = .ok (.isub, 1) := by decide +kernel
theorem dX1_charge_56 : decode cX1_charge 56 = .ok (.iadd, 1) := by decide +kernel
theorem dX1_charge_57 : decode cX1_charge 57 = .ok (.iastore, 1) := by decide +kernel
theorem dX1_charge_58 : decode cX1_charge 58 = .ok (.return_, 1) := by decide +kernel
theorem dX1_takeShare_0 : decode cX1_takeShare 0 = .ok (.iload_n 1, 1) := by decide +kernel
theorem dX1_takeShare_1 : decode cX1_takeShare 1 = .ok (.iconst 3, 1) := by decide +kernel
theorem dX1_takeShare_2 : decode cX1_takeShare 2 = .ok (.if_icmp .ne 11, 3) := by decide +kernel
theorem dX1_takeShare_5 : decode cX1_takeShare 5 = .ok (.aload_n 0, 1) := by decide +kernel
theorem dX1_takeShare_6 : decode cX1_takeShare 6 = .ok (.iload_n 2, 1) := by decide +kernel
theorem dX1_takeShare_7 : decode cX1_takeShare 7 = .ok (.invokevirtual 31, 3) := by decide +kernel
theorem dX1_takeShare_10 : decode cX1_takeShare 10 = .ok (.goto 9, 3) := by decide +kernel
theorem dX1_takeShare_13 : decode cX1_takeShare 13 = .ok (.aload_n 0, 1) := by decide +kernel
theorem dX1_takeShare_14 : decode cX1_takeShare 14 = .ok (.iload_n 1, 1) := by decide +kernel
theorem dX1_takeShare_15 : decode cX1_takeShare 15 = .ok (.iload_n 2, 1) := by decide +kernel
theorem dX1_takeShare_16 : decode cX1_takeShare 16 = .ok (.invokevirtual 34, 3) := by decide +kernel
theorem dX1_takeShare_19 : decode cX1_takeShare 19 = .ok (.return_, 1) := by decide +kernel
theorem dX2_init_0 : decode cX2_init 0 = .ok (.aload_n 0, 1) := by decide +kernel
theorem dX2_init_1 : decode cX2_init 1 = .ok (.invokespecial 3, 3) := by decide +kernel
theorem dX2_init_4 : decode cX2_init 4 = .ok (.aload_n 0, 1) := by decide +kernel
theorem dX2_init_5 : decode cX2_init 5 = .ok (.bipush 10, 2) := by decide +kernel
theorem dX2_init_7 : decode cX2_init 7 = .ok (.anewarray 9, 3) := by decide +kernel
theorem dX2_init_10 : decode cX2_init 10 = .ok (.putfield 11, 3) := by decide +kernel
theorem dX2_init_13 : decode cX2_init 13 = .ok (.aload_n 0, 1) := by decide +kernel
theorem dX2_init_14 : decode cX2_init 14 = .ok (.bipush 10, 2) := by decide +kernel
theorem dX2_init_16 : decode cX2_init 16 = .ok (.newarray .int, 2) := by decide +kernel
theorem dX2_init_18 : decode cX2_init 18 = .ok (.putfield 17, 3) := by decide +kernel
theorem dX2_init_21 : decode cX2_init 21 = .ok (.iconst 0, 1) := by decide +kernel
theorem dX2_init_22 : decode cX2_init 22 = .ok (.istore_n 1, 1) := by decide +kernel
theorem dX2_init_23 : decode cX2_init 23 = .ok (.iload_n 1, 1) := by decide +kernel
theorem dX2_init_24 : decode cX2_init 24 = .ok (.bipush 10, 2) := by decide +kernel
theorem dX2_init_26 : decode cX2_init 26 = .ok (.if_icmp .ge 22, 3) := by decide +kernel
theorem dX2_init_29 : decode cX2_init 29 = .ok (.aload_n 0, 1) := by decide +kernel
theorem dX2_init_30 : decode cX2_init 30 = .ok (.getfield 11, 3) := by decide +kernel
theorem dX2_init_33 : decode cX2_init 33 = .ok (.iload_n 1, 1) := by decide +kernel
theorem dX2_init_34 : decode cX2_init 34 = .ok (.new 9, 3) := by decide +kernel
theorem dX2_init_37 : decode cX2_init 37 = .ok (.dup, 1) := by decide +kernel
theorem dX2_init_38 : decode cX2_init 38 = .ok (.invokespecial 21, 3) := by decide +kernel
theorem dX2_init_41 : decode cX2_init 41 = .ok (.aastore, 1) := by decide +kernel
theorem dX2_init_42 : decode cX2_init 42 = .ok (.iinc 1 1, 3) := by decide +kernel
theorem dX2_init_45 : decode cX2_init 45 = .ok (.goto (-22), 3) := by decide +kernel
theorem dX2_init_48 : decode cX2_init 48 = .ok (.return_, 1) := by decide +kernel
theorem dX2_copyFrom_0 : decode cX2_copyFrom 0 = .ok (.iconst 0, 1) := by decide +kernel
theorem dX2_copyFrom_1 : decode cX2_copyFrom 1 = .ok (.istore_n 2, 1) := by decide +kernel
theorem dX2_copyFrom_2 : decode cX2_copyFrom 2 = .ok (.iload_n 2, 1) := by decide +kernel
theorem dX2_copyFrom_3 : decode cX2_copyFrom 3 = .ok (.bipush 10, 2) := by decide +kernel
theorem dX2_copyFrom_5 : decode cX2_copyFrom 5 = .ok (.if_icmp .ge 24, 3) := by decide +kernel
theorem dX2_copyFrom_8 : decode cX2_copyFrom 8 = .ok (.aload_n 0, 1) := by decide +kernel
theorem dX2_copyFrom_9 : decode cX2_copyFrom 9 = .ok (.getfield 11, 3) := by decide +kernel
theorem dX2_copyFrom_12 : decode cX2_copyFrom 12 = .ok (.iload_n 2, 1) := by decide +kernel
theorem dX2_copyFrom_13 : decode cX2_copyFrom 13 = .ok (.aaload, 1) := by decide +kernel
theorem dX2_copyFrom_14 : decode cX2_copyFrom 14 = .ok (.aload_n 1, 1) := by decide +kernel
theorem dX2_copyFrom_15 : decode cX2_copyFrom 15 = .ok (.getfield 11, 3) := by decide +kernel
theorem dX2_copyFrom_18 : decode cX2_copyFrom 18 = .ok (.iload_n 2, 1) := by decide +kernel
theorem dX2_copyFrom_19 : decode cX2_copyFrom 19 = .ok (.aaload, 1) := by decide +kernel
theorem dX2_copyFrom_20 : decode cX2_copyFrom 20 = .ok (.invokevirtual 22, 3) := by decide +kernel
theorem dX2_copyFrom_23 : decode cX2_copyFrom 23 = .ok (.iinc 2 1, 3) := by decide +kernel
theorem dX2_copyFrom_26 : decode cX2_copyFrom 26 = .ok (.goto (-24), 3) := by decide +kernel
theorem dX2_copyFrom_29 : decode cX2_copyFrom 29 = .ok (.aload_n 1, 1) := by decide +kernel
theorem dX2_copyFrom_30 : decode cX2_copyFrom 30 = .ok (.getfield 17, 3) := by decide +kernel
theorem dX2_copyFrom_33 : decode cX2_copyFrom 33 = .ok (.iconst 0, 1) := by decide +kernel
theorem dX2_copyFrom_34 : decode cX2_copyFrom 34 = .ok (.aload_n 0, 1) := by decide +kernel
theorem dX2_copyFrom_35 : decode cX2_copyFrom 35 = .ok (.getfield 17, 3) := by decide +kernel
theorem dX2_copyFrom_38 : decode cX2_copyFrom 38 = .ok (.iconst 0, 1) := by decide +kernel
theorem dX2_copyFrom_39 : decode cX2_copyFrom 39 = .ok (.bipush 10, 2) := by decide +kernel
theorem dX2_copyFrom_41 : decode cX2_copyFrom 41 = .ok (.invokestatic 26, 3) := by decide +kernel
theorem dX2_copyFrom_44 : decode cX2_copyFrom 44 = .ok (.aload_n 0, 1) := by decide +kernel
theorem dX2_copyFrom_45 : decode cX2_copyFrom 45 = .ok (.aload_n 1, 1) := by decide +kernel
theorem dX2_copyFrom_46 : decode cX2_copyFrom 46 = .ok (.getfield 32, 3) := by decide +kernel
theorem dX2_copyFrom_49 : decode cX2_copyFrom 49 = .ok (.putfield 32, 3) := by decide +kernel
theorem dX2_copyFrom_52 : decode cX2_copyFrom 52 = .ok (.aload_n 0, 1) := by decide +kernel
theorem dX2_copyFrom_53 : decode cX2_copyFrom 53 = .ok (.aload_n 1, 1) := by decide +kernel
theorem dX2_copyFrom_54 : decode cX2_copyFrom 54 = .ok (.getfield 36, 3) := by decide +kernel
theorem dX2_copyFrom_57 : decode cX2_copyFrom 57 = .ok (.putfield 36, 3) := by decide +kernel
theorem dX2_copyFrom_60 : decode cX2_copyFrom 60 = .ok (.aload_n 0, 1) := by decide +kernel
theorem dX2_copyFrom_61 : decode cX2_copyFrom 61 = .ok (.aload_n 1, 1) := by decide +kernel
theorem dX2_copyFrom_62 : decode cX2_copyFrom 62 = .ok (.getfield 39, 3) := by decide +kernel
theorem dX2_copyFrom_65 : decode cX2_copyFrom 65 = .ok (.putfield 39, 3) := by decide +kernel
theorem dX2_copyFrom_68 : decode cX2_copyFrom 68 = .ok (.return_, 1) := by decide +kernel
theorem dX2_has_0 : decode cX2_has 0 = .ok (.iload_n 1, 1) := by decide +kernel
theorem dX2_has_1 : decode cX2_has 1 = .ok (.ifCond .lt 21, 3) := by decide +kernel
theorem dX2_has_4 : decode cX2_has 4 = .ok (.iload_n 1, 1) := by decide +kernel
theorem dX2_has_5 : decode cX2_has 5 = .ok (.aload_n 0, 1) := by decide +kernel
theorem dX2_has_6 : decode cX2_has 6 = .ok (.getfield 32, 3) := by decide +kernel
theorem dX2_has_9 : decode cX2_has 9 = .ok (.if_icmp .ge 13, 3) := by decide +kernel
theorem dX2_has_12 : decode cX2_has 12 = .ok (.iload_n 1, 1) := by decide +kernel
theorem dX2_has_13 : decode cX2_has 13 = .ok (.bipush 10, 2) := by decide +kernel
theorem dX2_has_15 : decode cX2_has 15 = .ok (.if_icmp .ge 7, 3) := by decide +kernel
theorem dX2_has_18 : decode cX2_has 18 = .ok (.iconst 1, 1) := by decide +kernel
theorem dX2_has_19 : decode cX2_has 19 = .ok (.goto 4, 3) := by decide +kernel
theorem dX2_has_22 : decode cX2_has 22 = .ok (.iconst 0, 1) := by decide +kernel
theorem dX2_has_23 : decode cX2_has 23 = .ok (.ireturn, 1) := by decide +kernel
theorem dX2_takesPart_0 : decode cX2_takesPart 0 = .ok (.aload_n 0, 1) := by decide +kernel
theorem dX2_takesPart_1 : decode cX2_takesPart 1 = .ok (.iload_n 1, 1) := by decide +kernel
theorem dX2_takesPart_2 : decode cX2_takesPart 2 = .ok (.invokevirtual 42, 3) := by decide +kernel
theorem dX2_takesPart_5 : decode cX2_takesPart 5 = .ok (.ifCond .eq 24, 3) := by decide +kernel
theorem dX2_takesPart_8 : decode cX2_takesPart 8 = .ok (.iload_n 1, 1) := by decide +kernel
theorem dX2_takesPart_9 : decode cX2_takesPart 9 = .ok (.iload_n 2, 1) := by decide +kernel
theorem dX2_takesPart_10 : decode cX2_takesPart 10 = .ok (.if_icmp .eq 19, 3) := by decide +kernel
theorem dX2_takesPart_13 : decode cX2_takesPart 13 = .ok (.aload_n 0, 1) := by decide +kernel
theorem dX2_takesPart_14 : decode cX2_takesPart 14 = .ok (.getfield 11, 3) := by decide +kernel
theorem dX2_takesPart_17 : decode cX2_takesPart 17 = .ok (.iload_n 1, 1) := by decide +kernel
theorem dX2_takesPart_18 : decode cX2_takesPart 18 = .ok (.aaload, 1) := by decide +kernel
theorem dX2_takesPart_19 : decode cX2_takesPart 19 = .ok (.invokevirtual 46, 3) := by decide +kernel
theorem dX2_takesPart_22 : decode cX2_takesPart 22 = .ok (.ifCond .ne 7, 3) := by decide +kernel
theorem dX2_takesPart_25 : decode cX2_takesPart 25 = .ok (.iconst 1, 1) := by decide +kernel
theorem dX2_takesPart_26 : decode cX2_takesPart 26 = .ok (.goto 4, 3) := by decide +kernel
theorem dX2_takesPart_29 : decode cX2_takesPart 29 = .ok (.iconst 0, 1) := by decide +kernel
theorem dX2_takesPart_30 : decode cX2_takesPart 30 = .ok (.ireturn, 1) := by decide +kernel
theorem dX2_countNotGone_0 : decode cX2_countNotGone 0 = .ok (.iconst 0, 1) := by decide +kernel
theorem dX2_countNotGone_1 : decode cX2_countNotGone 1 = .ok (.istore_n 2, 1) := by decide +kernel
theorem dX2_countNotGone_2 : decode cX2_countNotGone 2 = .ok (.iconst 0, 1) := by decide +kernel
theorem dX2_countNotGone_3 : decode cX2_countNotGone 3 = .ok (.istore_n 3, 1) := by decide +kernel
theorem dX2_countNotGone_4 : decode cX2_countNotGone 4 = .ok (.iload_n 3, 1) := by decide +kernel
theorem dX2_countNotGone_5 : decode cX2_countNotGone 5 = .ok (.aload_n 0, 1) := by decide +kernel
theorem dX2_countNotGone_6 : decode cX2_countNotGone 6 = .ok (.getfield 32, 3) := by decide +kernel
theorem dX2_countNotGone_9 : decode cX2_countNotGone 9 = .ok (.if_icmp .ge 21, 3) := by decide +kernel
theorem dX2_countNotGone_12 : decode cX2_countNotGone 12 = .ok (.aload_n 0, 1) := by decide +kernel
theorem dX2_countNotGone_13 : decode cX2_countNotGone 13 = .ok (.iload_n 3, 1) := by decide +kernel
theorem dX2_countNotGone_14 : decode cX2_countNotGone 14 = .ok (.iload_n 1, 1) := by decide +kernel
theorem dX2_countNotGone_15 : decode cX2_countNotGone 15 = .ok (.invokevirtual 50, 3) := by decide +kernel
theorem dX2_countNotGone_18 : decode cX2_countNotGone 18 = .ok (.ifCond .eq 6, 3) := by decide +kernel
theorem dX2_countNotGone_21 : decode cX2_countNotGone 21 = .ok (.iinc 2 1, 3) := by decide +kernel
theorem dX2_countNotGone_24 : decode cX2_countNotGone 24 = .ok (.iinc 3 1, 3) := by decide +kernel
theorem dX2_countNotGone_27 : decode cX2_countNotGone 27 = .ok (.goto (-23), 3) := by decide +kernel
theorem dX2_countNotGone_30 : decode cX2_countNotGone 30 = .ok (.iload_n 2, 1) := by decide +kernel
theorem dX2_countNotGone_31 : decode cX2_countNotGone 31 = .ok (.ireturn, 1) := by decide +kernel
theorem dX2_countWithStatus_0 : decode cX2_countWithStatus 0 = .ok (.iconst 0, 1) := by decide +kernel
theorem dX2_countWithStatus_1 : decode cX2_countWithStatus 1 = .ok (.istore_n 2, 1) := by decide +kernel
theorem dX2_countWithStatus_2 : decode cX2_countWithStatus 2 = .ok (.iconst 0, 1) := by decide +kernel
theorem dX2_countWithStatus_3 : decode cX2_countWithStatus 3 = .ok (.istore_n 3, 1) := by decide +kernel
theorem dX2_countWithStatus_4 : decode cX2_countWithStatus 4 = .ok (.iload_n 3, 1) := by decide +kernel
theorem dX2_countWithStatus_5 : decode cX2_countWithStatus 5 = .ok (.aload_n 0, 1) := by decide +kernel
theorem dX2_countWithStatus_6 : decode cX2_countWithStatus 6 = .ok (.getfield 32, 3) := by decide +kernel
theorem dX2_countWithStatus_9 : decode cX2_countWithStatus 9 = .ok (.if_icmp .ge 35, 3) := by decide +kernel
theorem dX2_countWithStatus_12 : decode cX2_countWithStatus 12 = .ok (.aload_n 0, 1) := by decide +kernel
theorem dX2_countWithStatus_13 : decode cX2_countWithStatus 13 = .ok (.iload_n 3, 1) := by decide +kernel
theorem dX2_countWithStatus_14 : decode cX2_countWithStatus 14 = .ok (.invokevirtual 42, 3) := by decide +kernel
theorem dX2_countWithStatus_17 : decode cX2_countWithStatus 17 = .ok (.ifCond .eq 21, 3) := by decide +kernel
theorem dX2_countWithStatus_20 : decode cX2_countWithStatus 20 = .ok (.aload_n 0, 1) := by decide +kernel
theorem dX2_countWithStatus_21 : decode cX2_countWithStatus 21 = .ok (.getfield 11, 3) := by decide +kernel
theorem dX2_countWithStatus_24 : decode cX2_countWithStatus 24 = .ok (.iload_n 3, 1) := by decide +kernel
theorem dX2_countWithStatus_25 : decode cX2_countWithStatus 25 = .ok (.aaload, 1) := by decide +kernel
theorem dX2_countWithStatus_26 : decode cX2_countWithStatus 26 = .ok (.getfield 54, 3) := by decide +kernel
theorem dX2_countWithStatus_29 : decode cX2_countWithStatus 29 = .ok (.iconst 0, 1) := by decide +kernel
theorem dX2_countWithStatus_30 : decode cX2_countWithStatus 30 = .ok (.iaload, 1) := by decide +kernel
theorem dX2_countWithStatus_31 : decode cX2_countWithStatus 31 = .ok (.iload_n 1, 1) := by decide +kernel
theorem dX2_countWithStatus_32 : decode cX2_countWithStatus 32 = .ok (.if_icmp .ne 6, 3) := by decide +kernel
theorem dX2_countWithStatus_35 : decode cX2_countWithStatus 35 = .ok (.iinc 2 1, 3) := by decide +kernel
theorem dX2_countWithStatus_38 : decode cX2_countWithStatus 38 = .ok (.iinc 3 1, 3) := by decide +kernel
theorem dX2_countWithStatus_41 : decode cX2_countWithStatus 41 = .ok (.goto (-37), 3) := by decide +kernel
theorem dX2_countWithStatus_44 : decode cX2_countWithStatus 44 = .ok (.iload_n 2, 1) := by decide +kernel
theorem dX2_countWithStatus_45 : decode cX2_countWithStatus 45 = .ok (.ireturn, 1) := by decide +kernel
theorem dX2_join_0 : decode cX2_join 0 = .ok (.aload_n 0, 1) := by decide +kernel
theorem dX2_join_1 : decode cX2_join 1 = .ok (.getfield 32, 3) := by decide +kernel
theorem dX2_join_4 : decode cX2_join 4 = .ok (.bipush 10, 2) := by decide +kernel
theorem dX2_join_6 : decode cX2_join 6 = .ok (.if_icmp .lt 6, 3) := by decide +kernel
theorem dX2_join_9 : decode cX2_join 9 = .ok (.ldc 57, 2) := by decide +kernel
theorem dX2_join_11 : decode cX2_join 11 = .ok (.ireturn, 1) := by decide +kernel
theorem dX2_join_12 : decode cX2_join 12 = .ok (.aload_n 0, 1) := by decide +kernel
theorem dX2_join_13 : decode cX2_join 13 = .ok (.getfield 32, 3) := by decide +kernel
theorem dX2_join_16 : decode cX2_join 16 = .ok (.istore_n 1, 1) := by decide +kernel
theorem dX2_join_17 : decode cX2_join 17 = .ok (.aload_n 0, 1) := by decide +kernel
theorem dX2_join_18 : decode cX2_join 18 = .ok (.dup, 1) := by decide +kernel
theorem dX2_join_19 : decode cX2_join 19 = .ok (.getfield 32, 3) := by decide +kernel
theorem dX2_join_22 : decode cX2_join 22 = .ok (.iconst 1, 1) := by decide +kernel
theorem dX2_join_23 : decode cX2_join 23 = .ok (.iadd, 1) := by decide +kernel
theorem dX2_join_24 : decode cX2_join 24 = .ok (.putfield 32, 3) := by decide +kernel
theorem dX2_join_27 : decode cX2_join 27 = .ok (.aload_n 0, 1) := by decide +kernel
theorem dX2_join_28 : decode cX2_join 28 = .ok (.iload_n 1, 1) := by decide +kernel
theorem dX2_join_29 : decode cX2_join 29 = .ok (.invokevirtual 58, 3) := by decide +kernel
theorem dX2_join_32 : decode cX2_join 32 = .ok (.iload_n 1, 1) := by decide +kernel
theorem dX2_join_33 : decode cX2_join 33 = .ok (.ireturn, 1) := by decide +kernel
theorem dX2_putAway_0 : decode cX2_putAway 0 = .ok (.aload_n 0, 1) := by decide +kernel
theorem dX2_putAway_1 : decode cX2_putAway 1 = .ok (.iload_n 1, 1) := by decide +kernel
theorem dX2_putAway_2 : decode cX2_putAway 2 = .ok (.invokevirtual 42, 3) := by decide +kernel
theorem dX2_putAway_5 : decode cX2_putAway 5 = .ok (.ifCond .eq 12, 3) := by decide +kernel
theorem dX2_putAway_8 : decode cX2_putAway 8 = .ok (.iload_n 2, 1) := by decide +kernel
theorem dX2_putAway_9 : decode cX2_putAway 9 = .ok (.ifCond .lt 8, 3) := by decide +kernel
theorem dX2_putAway_12 : decode cX2_putAway 12 = .ok (.iload_n 2, 1) := by decide +kernel
theorem dX2_putAway_13 : decode cX2_putAway 13 = .ok (.iconst 1, 1) := by decide +kernel
theorem dX2_putAway_14 : decode cX2_putAway 14 = .ok (.if_icmp .le 6, 3) := by decide +kernel
theorem dX2_putAway_17 : decode cX2_putAway 17 = .ok (.ldc 62, 2) := by decide +kernel
theorem dX2_putAway_19 : decode cX2_putAway 19 = .ok (.ireturn, 1) := by decide +kernel
theorem dX2_putAway_20 : decode cX2_putAway 20 = .ok (.aload_n 0, 1) := by decide +kernel
theorem dX2_putAway_21 : decode cX2_putAway 21 = .ok (.getfield 11, 3) := by decide +kernel
theorem dX2_putAway_24 : decode cX2_putAway 24 = .ok (.iload_n 1, 1) := by decide +kernel
theorem dX2_putAway_25 : decode cX2_putAway 25 = .ok (.aaload, 1) := by decide +kernel
theorem dX2_putAway_26 : decode cX2_putAway 26 = .ok (.invokevirtual 46, 3) := by decide +kernel
theorem dX2_putAway_29 : decode cX2_putAway 29 = .ok (.ifCond .eq 6, 3) := by decide +kernel
theorem dX2_putAway_32 : decode cX2_putAway 32 = .ok (.ldc 63, 2) := by decide +kernel
theorem dX2_putAway_34 : decode cX2_putAway 34 = .ok (.ireturn, 1) := by decide +kernel
theorem dX2_putAway_35 : decode cX2_putAway 35 = .ok (.aload_n 0, 1) := by decide +kernel
theorem dX2_putAway_36 : decode cX2_putAway 36 = .ok (.getfield 11, 3) := by decide +kernel
theorem dX2_putAway_39 : decode cX2_putAway 39 = .ok (.iload_n 1, 1) := by decide +kernel
theorem dX2_putAway_40 : decode cX2_putAway 40 = .ok (.aaload, 1) := by decide +kernel
theorem dX2_putAway_41 : decode cX2_putAway 41 = .ok (.getfield 54, 3) := by decide +kernel
theorem dX2_putAway_44 : decode cX2_putAway 44 = .ok (.iconst 0, 1) := by decide +kernel
theorem dX2_putAway_45 : decode cX2_putAway 45 = .ok (.iaload, 1) := by decide +kernel
theorem dX2_putAway_46 : decode cX2_putAway 46 = .ok (.istore_n 3, 1) := by decide +kernel
theorem dX2_putAway_47 : decode cX2_putAway 47 = .ok (.aload_n 0, 1) := by decide +kernel
theorem dX2_putAway_48 : decode cX2_putAway 48 = .ok (.getfield 11, 3) := by decide +kernel
theorem dX2_putAway_51 : decode cX2_putAway 51 = .ok (.iload_n 1, 1) := by decide +kernel
theorem dX2_putAway_52 : decode cX2_putAway 52 = .ok (.aaload, 1) := by decide +kernel
theorem dX2_putAway_53 : decode cX2_putAway 53 = .ok (.getfield 54, 3) := by decide +kernel
theorem dX2_putAway_56 : decode cX2_putAway 56 = .ok (.iconst 0, 1) := by decide +kernel
theorem dX2_putAway_57 : decode cX2_putAway 57 = .ok (.iload_n 2, 1) := by decide +kernel
theorem dX2_putAway_58 : decode cX2_putAway 58 = .ok (.iconst 1, 1) := by decide +kernel
theorem dX2_putAway_59 : decode cX2_putAway 59 = .ok (.if_icmp .ne 7, 3) := by decide +kernel
theorem dX2_putAway_62 : decode cX2_putAway 62 = .ok (.iconst 1, 1) := by decide +kernel
theorem dX2_putAway_63 : decode cX2_putAway 63 = .ok (.goto 4, 3) := by decide +kernel
theorem dX2_putAway_66 : decode cX2_putAway 66 = .ok (.iconst 0, 1) := by decide +kernel
theorem dX2_putAway_67 : decode cX2_putAway 67 = .ok (.iastore, 1) := by decide +kernel
theorem dX2_putAway_68 : decode cX2_putAway 68 = .ok (.iload_n 3, 1) := by decide +kernel
theorem dX2_putAway_69 : decode cX2_putAway 69 = .ok (.ireturn, 1) := by decide +kernel
theorem dX2_depart_0 : decode cX2_depart 0 = .ok (.aload_n 0, 1) := by decide +kernel
theorem dX2_depart_1 : decode cX2_depart 1 = .ok (.iload_n 1, 1) := by decide +kernel
theorem dX2_depart_2 : decode cX2_depart 2 = .ok (.invokevirtual 42, 3) := by decide +kernel
theorem dX2_depart_5 : decode cX2_depart 5 = .ok (.ifCond .ne 6, 3) := by decide +kernel
theorem dX2_depart_8 : decode cX2_depart 8 = .ok (.ldc 62, 2) := by decide +kernel
theorem dX2_depart_10 : decode cX2_depart 10 = .ok (.ireturn, 1) := by decide +kernel
theorem dX2_depart_11 : decode cX2_depart 11 = .ok (.aload_n 0, 1) := by decide +kernel
theorem dX2_depart_12 : decode cX2_depart 12 = .ok (.getfield 11, 3) := by decide +kernel
theorem dX2_depart_15 : decode cX2_depart 15 = .ok (.iload_n 1, 1) := by decide +kernel
theorem dX2_depart_16 : decode cX2_depart 16 = .ok (.aaload, 1) := by decide +kernel
theorem dX2_depart_17 : decode cX2_depart 17 = .ok (.getfield 54, 3) := by decide +kernel
theorem dX2_depart_20 : decode cX2_depart 20 = .ok (.iconst 3, 1) := by decide +kernel
theorem dX2_depart_21 : decode cX2_depart 21 = .ok (.iaload, 1) := by decide +kernel
theorem dX2_depart_22 : decode cX2_depart 22 = .ok (.istore_n 2, 1) := by decide +kernel
theorem dX2_depart_23 : decode cX2_depart 23 = .ok (.aload_n 0, 1) := by decide +kernel
theorem dX2_depart_24 : decode cX2_depart 24 = .ok (.getfield 11, 3) := by decide +kernel
theorem dX2_depart_27 : decode cX2_depart 27 = .ok (.iload_n 1, 1) := by decide +kernel
theorem dX2_depart_28 : decode cX2_depart 28 = .ok (.aaload, 1) := by decide +kernel
theorem dX2_depart_29 : decode cX2_depart 29 = .ok (.getfield 54, 3) := by decide +kernel
theorem dX2_depart_32 : decode cX2_depart 32 = .ok (.iconst 3, 1) := by decide +kernel
theorem dX2_depart_33 : decode cX2_depart 33 = .ok (.iconst 0, 1) := by decide +kernel
theorem dX2_depart_34 : decode cX2_depart 34 = .ok (.iastore, 1) := by decide +kernel
theorem dX2_depart_35 : decode cX2_depart 35 = .ok (.aload_n 0, 1) := by decide +kernel
theorem dX2_depart_36 : decode cX2_depart 36 = .ok (.getfield 11, 3) := by decide +kernel
theorem dX2_depart_39 : decode cX2_depart 39 = .ok (.iload_n 1, 1) := by decide +kernel
theorem dX2_depart_40 : decode cX2_depart 40 = .ok (.aaload, 1) := by decide +kernel
theorem dX2_depart_41 : decode cX2_depart 41 = .ok (.getfield 54, 3) := by decide +kernel
theorem dX2_depart_44 : decode cX2_depart 44 = .ok (.iconst 4, 1) := by decide +kernel
theorem dX2_depart_45 : decode cX2_depart 45 = .ok (.dup2, 1) := by decide +kernel
theorem dX2_depart_46 : decode cX2_depart 46 = .ok (.iaload, 1) := by decide +kernel
theorem dX2_depart_47 : decode cX2_depart 47 = .ok (.iload_n 2, 1) := by decide +kernel
theorem dX2_depart_48 : decode cX2_depart 48 = .ok (.iadd, 1) := by decide +kernel
theorem dX2_depart_49 : decode cX2_depart 49 = .ok (.iastore, 1) := by decide +kernel
theorem dX2_depart_50 : decode cX2_depart 50 = .ok (.aload_n 0, 1) := by decide +kernel
theorem dX2_depart_51 : decode cX2_depart 51 = .ok (.getfield 11, 3) := by decide +kernel
theorem dX2_depart_54 : decode cX2_depart 54 = .ok (.iload_n 1, 1) := by decide +kernel
theorem dX2_depart_55 : decode cX2_depart 55 = .ok (.aaload, 1) := by decide +kernel
theorem dX2_depart_56 : decode cX2_depart 56 = .ok (.getfield 54, 3) := by decide +kernel
theorem dX2_depart_59 : decode cX2_depart 59 = .ok (.iconst 0, 1) := by decide +kernel
theorem dX2_depart_60 : decode cX2_depart 60 = .ok (.iconst 2, 1) := by decide +kernel
theorem dX2_depart_61 : decode cX2_depart 61 = .ok (.iastore, 1) := by decide +kernel
theorem dX2_depart_62 : decode cX2_depart 62 = .ok (.aload_n 0, 1) := by decide +kernel
theorem dX2_depart_63 : decode cX2_depart 63 = .ok (.iload_n 1, 1) := by decide +kernel
theorem dX2_depart_64 : decode cX2_depart 64 = .ok (.invokevirtual 64, 3) := by decide +kernel
theorem dX2_depart_67 : decode cX2_depart 67 = .ok (.aload_n 0, 1) := by decide +kernel
theorem dX2_depart_68 : decode cX2_depart 68 = .ok (.iload_n 2, 1) := by decide +kernel
theorem dX2_depart_69 : decode cX2_depart 69 = .ok (.iconst 3, 1) := by decide +kernel
theorem dX2_depart_70 : decode cX2_depart 70 = .ok (.iload_n 1, 1) := by decide +kernel
theorem dX2_depart_71 : decode cX2_depart 71 = .ok (.invokevirtual 67, 3) := by decide +kernel
theorem dX2_depart_74 : decode cX2_depart 74 = .ok (.iload_n 2, 1) := by decide +kernel
theorem dX2_depart_75 : decode cX2_depart 75 = .ok (.ireturn, 1) := by decide +kernel
theorem dX2_takeGift_0 : decode cX2_takeGift 0 = .ok (.aload_n 0, 1) := by decide +kernel
theorem dX2_takeGift_1 : decode cX2_takeGift 1 = .ok (.iload_n 1, 1) := by decide +kernel
theorem dX2_takeGift_2 : decode cX2_takeGift 2 = .ok (.invokevirtual 42, 3) := by decide +kernel
theorem dX2_takeGift_5 : decode cX2_takeGift 5 = .ok (.ifCond .eq 15, 3) := by decide +kernel
theorem dX2_takeGift_8 : decode cX2_takeGift 8 = .ok (.iload_n 2, 1) := by decide +kernel
theorem dX2_takeGift_9 : decode cX2_takeGift 9 = .ok (.iconst 1, 1) := by decide +kernel
theorem dX2_takeGift_10 : decode cX2_takeGift 10 = .ok (.if_icmp .lt 10, 3) := by decide +kernel
theorem dX2_takeGift_13 : decode cX2_takeGift 13 = .ok (.iload_n 2, 1) := by decide +kernel
theorem dX2_takeGift_14 : decode cX2_takeGift 14 = .ok (.sipush 400, 3) := by decide +kernel
theorem dX2_takeGift_17 : decode cX2_takeGift 17 = .ok (.if_icmp .le 6, 3) := by decide +kernel
theorem dX2_takeGift_20 : decode cX2_takeGift 20 = .ok (.ldc 62, 2) := by decide +kernel
theorem dX2_takeGift_22 : decode cX2_takeGift 22 = .ok (.ireturn, 1) := by decide +kernel
theorem dX2_takeGift_23 : decode cX2_takeGift 23 = .ok (.aload_n 0, 1) := by decide +kernel
theorem dX2_takeGift_24 : decode cX2_takeGift 24 = .ok (.getfield 11, 3) := by decide +kernel
theorem dX2_takeGift_27 : decode cX2_takeGift 27 = .ok (.iload_n 1, 1) := by decide +kernel
theorem dX2_takeGift_28 : decode cX2_takeGift 28 = .ok (.aaload, 1) := by decide +kernel
theorem dX2_takeGift_29 : decode cX2_takeGift 29 = .ok (.invokevirtual 46, 3) := by decide +kernel
theorem dX2_takeGift_32 : decode cX2_takeGift 32 = .ok (.ifCond .eq 6, 3) := by decide +kernel
theorem dX2_takeGift_35 : decode cX2_takeGift 35 = .ok (.ldc 63, 2) := by decide +kernel
theorem dX2_takeGift_37 : decode cX2_takeGift 37 = .ok (.ireturn, 1) := by decide +kernel
theorem dX2_takeGift_38 : decode cX2_takeGift 38 = .ok (.aload_n 0, 1) := by decide +kernel
theorem dX2_takeGift_39 : decode cX2_takeGift 39 = .ok (.getfield 11, 3) := by decide +kernel
theorem dX2_takeGift_42 : decode cX2_takeGift 42 = .ok (.iload_n 1, 1) := by decide +kernel
theorem dX2_takeGift_43 : decode cX2_takeGift 43 = .ok (.aaload, 1) := by decide +kernel
theorem dX2_takeGift_44 : decode cX2_takeGift 44 = .ok (.iload_n 2, 1) := by decide +kernel
theorem dX2_takeGift_45 : decode cX2_takeGift 45 = .ok (.invokevirtual 71, 3) := by decide +kernel
theorem dX2_takeGift_48 : decode cX2_takeGift 48 = .ok (.aload_n 0, 1) := by decide +kernel
theorem dX2_takeGift_49 : decode cX2_takeGift 49 = .ok (.getfield 11, 3) := by decide +kernel
theorem dX2_takeGift_52 : decode cX2_takeGift 52 = .ok (.iload_n 1, 1) := by decide +kernel
theorem dX2_takeGift_53 : decode cX2_takeGift 53 = .ok (.aaload, 1) := by decide +kernel
theorem dX2_takeGift_54 : decode cX2_takeGift 54 = .ok (.getfield 54, 3) := by decide +kernel
theorem dX2_takeGift_57 : decode cX2_takeGift 57 = .ok (.iconst 3, 1) := by decide +kernel
theorem dX2_takeGift_58 : decode cX2_takeGift 58 = .ok (.iaload, 1) := by decide +kernel
theorem dX2_takeGift_59 : decode cX2_takeGift 59 = .ok (.ireturn, 1) := by decide +kernel
theorem dX2_chargeEach_0 : decode cX2_chargeEach 0 = .ok (.iconst 0, 1) := by decide +kernel
theorem dX2_chargeEach_1 : decode cX2_chargeEach 1 = .ok (.istore_n 3, 1) := by decide +kernel
theorem dX2_chargeEach_2 : decode cX2_chargeEach 2 = .ok (.iload_n 3, 1) := by decide +kernel
theorem dX2_chargeEach_3 : decode cX2_chargeEach 3 = .ok (.aload_n 0, 1) := by decide +kernel
theorem dX2_chargeEach_4 : decode cX2_chargeEach 4 = .ok (.getfield 32, 3) := by decide +kernel
theorem dX2_chargeEach_7 : decode cX2_chargeEach 7 = .ok (.if_icmp .ge 29, 3) := by decide +kernel
theorem dX2_chargeEach_10 : decode cX2_chargeEach 10 = .ok (.aload_n 0, 1) := by decide +kernel
theorem dX2_chargeEach_11 : decode cX2_chargeEach 11 = .ok (.iload_n 3, 1) := by decide +kernel
theorem dX2_chargeEach_12 : decode cX2_chargeEach 12 = .ok (.iconst (-1), 1) := by decide +kernel
theorem dX2_chargeEach_13 : decode cX2_chargeEach 13 = .ok (.invokevirtual 50, 3) := by decide +kernel
theorem dX2_chargeEach_16 : decode cX2_chargeEach 16 = .ok (.ifCond .eq 14, 3) := by decide +kernel
theorem dX2_chargeEach_19 : decode cX2_chargeEach 19 = .ok (.aload_n 0, 1) := by decide +kernel
theorem dX2_chargeEach_20 : decode cX2_chargeEach 20 = .ok (.getfield 11, 3) := by decide +kernel
theorem dX2_chargeEach_23 : decode cX2_chargeEach 23 = .ok (.iload_n 3, 1) := by decide +kernel
theorem dX2_chargeEach_24 : decode cX2_chargeEach 24 = .ok (.aaload, 1) := by decide +kernel
theorem dX2_chargeEach_25 : decode cX2_chargeEach 25 = .ok (.iload_n 1, 1) := by decide +kernel
theorem dX2_chargeEach_26 : decode cX2_chargeEach 26 = .ok (.iload_n 2, 1) := by decide +kernel
theorem dX2_chargeEach_27 : decode cX2_chargeEach 27 = .ok (.invokevirtual 74, 3) := by decide +kernel
theorem dX2_chargeEach_30 : decode cX2_chargeEach 30 = .ok (.iinc 3 1, 3) := by decide +kernel
theorem dX2_chargeEach_33 : decode cX2_chargeEach 33 = .ok (.goto (-31), 3) := by decide +kernel
theorem dX2_chargeEach_36 : decode cX2_chargeEach 36 = .ok (.return_, 1) := by decide +kernel
theorem dX2_share_0 : decode cX2_share 0 = .ok (.aload_n 0, 1) := by decide +kernel
theorem dX2_share_1 : decode cX2_share 1 = .ok (.iload_n 3, 1) := by decide +kernel
theorem dX2_share_2 : decode cX2_share 2 = .ok (.invokevirtual 78, 3) := by decide +kernel
theorem dX2_share_5 : decode cX2_share 5 = .ok (.istore 4, 2) := by decide +kernel
theorem dX2_share_7 : decode cX2_share 7 = .ok (.iload 4, 2) := by decide +kernel
theorem dX2_share_9 : decode cX2_share 9 = .ok (.ifCond .ne 4, 3) := by decide +kernel
theorem dX2_share_12 : decode cX2_share 12 = .ok (.return_, 1) := by decide +kernel
theorem dX2_share_13 : decode cX2_share 13 = .ok (.iload_n 1, 1) := by decide +kernel
theorem dX2_share_14 : decode cX2_share 14 = .ok (.iload 4, 2) := by decide +kernel
theorem dX2_share_16 : decode cX2_share 16 = .ok (.idiv, 1) := by decide +kernel
theorem dX2_share_17 : decode cX2_share 17 = .ok (.istore 5, 2) := by decide +kernel
theorem dX2_share_19 : decode cX2_share 19 = .ok (.iload_n 1, 1) := by decide +kernel
theorem dX2_share_20 : decode cX2_share 20 = .ok (.iload 4, 2) := by decide +kernel
theorem dX2_share_22 : decode cX2_share 22 = .ok (.irem, 1) := by decide +kernel
theorem dX2_share_23 : decode cX2_share 23 = .ok (.istore 6, 2) := by decide +kernel
theorem dX2_share_25 : decode cX2_share 25 = .ok (.aload_n 0, 1) := by decide +kernel
theorem dX2_share_26 : decode cX2_share 26 = .ok (.getfield 39, 3) := by decide +kernel
theorem dX2_share_29 : decode cX2_share 29 = .ok (.istore 7, 2) := by decide +kernel
theorem dX2_share_31 : decode cX2_share 31 = .ok (.iconst 0, 1) := by decide +kernel
theorem dX2_share_32 : decode cX2_share 32 = .ok (.istore 8, 2) := by decide +kernel
theorem dX2_share_34 : decode cX2_share 34 = .ok (.iload 8, 2) := by decide +kernel
theorem dX2_share_36 : decode cX2_share 36 = .ok (.bipush 10, 2) := by decide +kernel
theorem dX2_share_38 : decode cX2_share 38 = .ok (.if_icmp .ge 73, 3) := by decide +kernel
theorem dX2_share_41 : decode cX2_share 41 = .ok (.iload 7, 2) := by decide +kernel
theorem dX2_share_43 : decode cX2_share 43 = .ok (.iload 8, 2) := by decide +kernel
theorem dX2_share_45 : decode cX2_share 45 = .ok (.iadd, 1) := by decide +kernel
theorem dX2_share_46 : decode cX2_share 46 = .ok (.bipush 10, 2) := by decide +kernel
theorem dX2_share_48 : decode cX2_share 48 = .ok (.irem, 1) := by decide +kernel
theorem dX2_share_49 : decode cX2_share 49 = .ok (.istore 9, 2) := by decide +kernel
theorem dX2_share_51 : decode cX2_share 51 = .ok (.aload_n 0, 1) := by decide +kernel
theorem dX2_share_52 : decode cX2_share 52 = .ok (.iload 9, 2) := by decide +kernel
theorem dX2_share_54 : decode cX2_share 54 = .ok (.iload_n 3, 1) := by decide +kernel
theorem dX2_share_55 : decode cX2_share 55 = .ok (.invokevirtual 50, 3) := by decide +kernel
theorem dX2_share_58 : decode cX2_share 58 = .ok (.ifCond .eq 47, 3) := by decide +kernel
theorem dX2_share_61 : decode cX2_share 61 = .ok (.aload_n 0, 1) := by decide +kernel
theorem dX2_share_62 : decode cX2_share 62 = .ok (.getfield 11, 3) := by decide +kernel
theorem dX2_share_65 : decode cX2_share 65 = .ok (.iload 9, 2) := by decide +kernel
theorem dX2_share_67 : decode cX2_share 67 = .ok (.aaload, 1) := by decide +kernel
theorem dX2_share_68 : decode cX2_share 68 = .ok (.iload_n 2, 1) := by decide +kernel
theorem dX2_share_69 : decode cX2_share 69 = .ok (.iload 6, 2) := by decide +kernel
theorem dX2_share_71 : decode cX2_share 71 = .ok (.ifCond .le 10, 3) := by decide +kernel
theorem dX2_share_74 : decode cX2_share 74 = .ok (.iload 5, 2) := by decide +kernel
theorem dX2_share_76 : decode cX2_share 76 = .ok (.iconst 1, 1) := by decide +kernel
theorem dX2_share_77 : decode cX2_share 77 = .ok (.iadd, 1) := by decide +kernel
theorem dX2_share_78 : decode cX2_share 78 = .ok (.goto 5, 3) := by decide +kernel
theorem dX2_share_81 : decode cX2_share 81 = .ok (.iload 5, 2) := by decide +kernel
theorem dX2_share_83 : decode cX2_share 83 = .ok (.invokevirtual 82, 3) := by decide +kernel
theorem dX2_share_86 : decode cX2_share 86 = .ok (.iload 6, 2) := by decide +kernel
theorem dX2_share_88 : decode cX2_share 88 = .ok (.ifCond .le 17, 3) := by decide +kernel
theorem dX2_share_91 : decode cX2_share 91 = .ok (.iinc 6 (-1), 3) := by decide +kernel
theorem dX2_share_94 : decode cX2_share 94 = .ok (.aload_n 0, 1) := by decide +kernel
theorem dX2_share_95 : decode cX2_share 95 = .ok (.iload 9, 2) := by decide +kernel
theorem dX2_share_97 : decode cX2_share 97 = .ok (.iconst 1, 1) := by decide +kernel
theorem dX2_share_98 : decode cX2_share 98 = .ok (.iadd, 1) := by decide +kernel
theorem dX2_share_99 : decode cX2_share 99 = .ok (.bipush 10, 2) := by decide +kernel
theorem dX2_share_101 : decode cX2_share 101 = .ok (.irem, 1) := by decide +kernel
theorem dX2_share_102 : decode cX2_share 102 = .ok (.putfield 39, 3) := by decide +kernel
theorem dX2_share_105 : decode cX2_share 105 = .ok (.iinc 8 1, 3) := by decide +kernel
theorem dX2_share_108 : decode cX2_share 108 = .ok (.goto (-74), 3) := by decide +kernel
theorem dX2_share_111 : decode cX2_share 111 = .ok (.return_, 1) := by decide +kernel
theorem dX2_tellOfAll_0 : decode cX2_tellOfAll 0 = .ok (.iload_n 1, 1) := by decide +kernel
theorem dX2_tellOfAll_1 : decode cX2_tellOfAll 1 = .ok (.bipush 11, 2) := by decide +kernel
theorem dX2_tellOfAll_3 : decode cX2_tellOfAll 3 = .ok (.if_icmp .ne 8, 3) := by decide +kernel
theorem dX2_tellOfAll_6 : decode cX2_tellOfAll 6 = .ok (.aload_n 0, 1) := by decide +kernel
theorem dX2_tellOfAll_7 : decode cX2_tellOfAll 7 = .ok (.getfield 39, 3) := by decide +kernel
theorem dX2_tellOfAll_10 : decode cX2_tellOfAll 10 = .ok (.ireturn, 1) := by decide +kernel
theorem dX2_tellOfAll_11 : decode cX2_tellOfAll 11 = .ok (.iload_n 1, 1) := by decide +kernel
theorem dX2_tellOfAll_12 : decode cX2_tellOfAll 12 = .ok (.iconst 1, 1) := by decide +kernel
theorem dX2_tellOfAll_13 : decode cX2_tellOfAll 13 = .ok (.if_icmp .lt 9, 3) := by decide +kernel
theorem dX2_tellOfAll_16 : decode cX2_tellOfAll 16 = .ok (.iload_n 1, 1) := by decide +kernel
theorem dX2_tellOfAll_17 : decode cX2_tellOfAll 17 = .ok (.bipush 10, 2) := by decide +kernel
theorem dX2_tellOfAll_19 : decode cX2_tellOfAll 19 = .ok (.if_icmp .le 6, 3) := by decide +kernel
theorem dX2_tellOfAll_22 : decode cX2_tellOfAll 22 = .ok (.ldc 62, 2) := by decide +kernel
theorem dX2_tellOfAll_24 : decode cX2_tellOfAll 24 = .ok (.ireturn, 1) := by decide +kernel
theorem dX2_tellOfAll_25 : decode cX2_tellOfAll 25 = .ok (.iconst 0, 1) := by decide +kernel
theorem dX2_tellOfAll_26 : decode cX2_tellOfAll 26 = .ok (.istore_n 2, 1) := by decide +kernel
theorem dX2_tellOfAll_27 : decode cX2_tellOfAll 27 = .ok (.iconst 0, 1) := by decide +kernel
theorem dX2_tellOfAll_28 : decode cX2_tellOfAll 28 = .ok (.istore_n 3, 1) := by decide +kernel
theorem dX2_tellOfAll_29 : decode cX2_tellOfAll 29 = .ok (.iload_n 3, 1) := by decide +kernel
theorem dX2_tellOfAll_30 : decode cX2_tellOfAll 30 = .ok (.bipush 10, 2) := by decide +kernel
theorem dX2_tellOfAll_32 : decode cX2_tellOfAll 32 = .ok (.if_icmp .ge 23, 3) := by decide +kernel
theorem dX2_tellOfAll_35 : decode cX2_tellOfAll 35 = .ok (.iload_n 2, 1) := by decide +kernel
theorem dX2_tellOfAll_36 : decode cX2_tellOfAll 36 = .ok (.aload_n 0, 1) := by decide +kernel
theorem dX2_tellOfAll_37 : decode cX2_tellOfAll 37 = .ok (.getfield 11, 3) := by decide +kernel
theorem dX2_tellOfAll_40 : decode cX2_tellOfAll 40 = .ok (.iload_n 3, 1) := by decide +kernel
theorem dX2_tellOfAll_41 : decode cX2_tellOfAll 41 = .ok (.aaload, 1) := by decide +kernel
theorem dX2_tellOfAll_42 : decode cX2_tellOfAll 42 = .ok (.getfield 54, 3) := by decide +kernel
theorem dX2_tellOfAll_45 : decode cX2_tellOfAll 45 = .ok (.iload_n 1, 1) := by decide +kernel
theorem dX2_tellOfAll_46 : decode cX2_tellOfAll 46 = .ok (.iaload, 1) := by decide +kernel
theorem dX2_tellOfAll_47 : decode cX2_tellOfAll 47 = .ok (.iadd, 1) := by decide +kernel
theorem dX2_tellOfAll_48 : decode cX2_tellOfAll 48 = .ok (.istore_n 2, 1) := by decide +kernel
theorem dX2_tellOfAll_49 : decode cX2_tellOfAll 49 = .ok (.iinc 3 1, 3) := by decide +kernel
theorem dX2_tellOfAll_52 : decode cX2_tellOfAll 52 = .ok (.goto (-23), 3) := by decide +kernel
theorem dX2_tellOfAll_55 : decode cX2_tellOfAll 55 = .ok (.iload_n 2, 1) := by decide +kernel
theorem dX2_tellOfAll_56 : decode cX2_tellOfAll 56 = .ok (.ireturn, 1) := by decide +kernel
theorem dX2_debtorInOrder_0 : decode cX2_debtorInOrder 0 = .ok (.iload_n 1, 1) := by decide +kernel
theorem dX2_debtorInOrder_1 : decode cX2_debtorInOrder 1 = .ok (.ifCond .ge 6, 3) := by decide +kernel
theorem dX2_debtorInOrder_4 : decode cX2_debtorInOrder 4 = .ok (.ldc 62, 2) := by decide +kernel
theorem dX2_debtorInOrder_6 : decode cX2_debtorInOrder 6 = .ok (.ireturn, 1) := by decide +kernel
theorem dX2_debtorInOrder_7 : decode cX2_debtorInOrder 7 = .ok (.iconst 0, 1) := by decide +kernel
theorem dX2_debtorInOrder_8 : decode cX2_debtorInOrder 8 = .ok (.istore_n 2, 1) := by decide +kernel
theorem dX2_debtorInOrder_9 : decode cX2_debtorInOrder 9 = .ok (.iload_n 2, 1) := by decide +kernel
theorem dX2_debtorInOrder_10 : decode cX2_debtorInOrder 10 = .ok (.bipush 10, 2) := by decide +kernel
theorem dX2_debtorInOrder_12 : decode cX2_debtorInOrder 12 = .ok (.if_icmp .ge 32, 3) := by decide +kernel
theorem dX2_debtorInOrder_15 : decode cX2_debtorInOrder 15 = .ok (.aload_n 0, 1) := by decide +kernel
theorem dX2_debtorInOrder_16 : decode cX2_debtorInOrder 16 = .ok (.getfield 11, 3) := by decide +kernel
theorem dX2_debtorInOrder_19 : decode cX2_debtorInOrder 19 = .ok (.iload_n 2, 1) := by decide +kernel
theorem dX2_debtorInOrder_20 : decode cX2_debtorInOrder 20 = .ok (.aaload, 1) := by decide +kernel
theorem dX2_debtorInOrder_21 : decode cX2_debtorInOrder 21 = .ok (.invokevirtual 85, 3) := by decide +kernel
theorem dX2_debtorInOrder_24 : decode cX2_debtorInOrder 24 = .ok (.ifCond .le 14, 3) := by decide +kernel
theorem dX2_debtorInOrder_27 : decode cX2_debtorInOrder 27 = .ok (.aload_n 0, 1) := by decide +kernel
theorem dX2_debtorInOrder_28 : decode cX2_debtorInOrder 28 = .ok (.iload_n 2, 1) := by decide +kernel
theorem dX2_debtorInOrder_29 : decode cX2_debtorInOrder 29 = .ok (.invokevirtual 89, 3) := by decide +kernel
theorem dX2_debtorInOrder_32 : decode cX2_debtorInOrder 32 = .ok (.iload_n 1, 1) := by decide +kernel
theorem dX2_debtorInOrder_33 : decode cX2_debtorInOrder 33 = .ok (.if_icmp .ne 5, 3) := by decide +kernel
theorem dX2_debtorInOrder_36 : decode cX2_debtorInOrder 36 = .ok (.iload_n 2, 1) := by decide +kernel
theorem dX2_debtorInOrder_37 : decode cX2_debtorInOrder 37 = .ok (.ireturn, 1) := by decide +kernel
theorem dX2_debtorInOrder_38 : decode cX2_debtorInOrder 38 = .ok (.iinc 2 1, 3) := by decide +kernel
theorem dX2_debtorInOrder_41 : decode cX2_debtorInOrder 41 = .ok (.goto (-32), 3) := by decide +kernel
theorem dX2_debtorInOrder_44 : decode cX2_debtorInOrder 44 = .ok (.ldc 92, 2) := by decide +kernel
theorem dX2_debtorInOrder_46 : decode cX2_debtorInOrder 46 = .ok (.ireturn, 1) := by decide +kernel
theorem dX2_debtorsAheadOf_0 : decode cX2_debtorsAheadOf 0 = .ok (.aload_n 0, 1) := by decide +kernel
theorem dX2_debtorsAheadOf_1 : decode cX2_debtorsAheadOf 1 = .ok (.iload_n 1, 1) := by decide +kernel
theorem dX2_debtorsAheadOf_2 : decode cX2_debtorsAheadOf 2 = .ok (.invokevirtual 42, 3) := by decide +kernel
theorem dX2_debtorsAheadOf_5 : decode cX2_debtorsAheadOf 5 = .ok (.ifCond .ne 5, 3) := by decide +kernel
theorem dX2_debtorsAheadOf_8 : decode cX2_debtorsAheadOf 8 = .ok (.iconst 0, 1) := by decide +kernel
theorem dX2_debtorsAheadOf_9 : decode cX2_debtorsAheadOf 9 = .ok (.ireturn, 1) := by decide +kernel
theorem dX2_debtorsAheadOf_10 : decode cX2_debtorsAheadOf 10 = .ok (.aload_n 0, 1) := by decide +kernel
theorem dX2_debtorsAheadOf_11 : decode cX2_debtorsAheadOf 11 = .ok (.getfield 11, 3) := by decide +kernel
theorem dX2_debtorsAheadOf_14 : decode cX2_debtorsAheadOf 14 = .ok (.iload_n 1, 1) := by decide +kernel
theorem dX2_debtorsAheadOf_15 : decode cX2_debtorsAheadOf 15 = .ok (.aaload, 1) := by decide +kernel
theorem dX2_debtorsAheadOf_16 : decode cX2_debtorsAheadOf 16 = .ok (.invokevirtual 85, 3) := by decide +kernel
theorem dX2_debtorsAheadOf_19 : decode cX2_debtorsAheadOf 19 = .ok (.istore_n 2, 1) := by decide +kernel
theorem dX2_debtorsAheadOf_20 : decode cX2_debtorsAheadOf 20 = .ok (.iconst 0, 1) := by decide +kernel
theorem dX2_debtorsAheadOf_21 : decode cX2_debtorsAheadOf 21 = .ok (.istore_n 3, 1) := by decide +kernel
theorem dX2_debtorsAheadOf_22 : decode cX2_debtorsAheadOf 22 = .ok (.iconst 0, 1) := by decide +kernel
theorem dX2_debtorsAheadOf_23 : decode cX2_debtorsAheadOf 23 = .ok (.istore 4, 2) := by decide +kernel
theorem dX2_debtorsAheadOf_25 : decode cX2_debtorsAheadOf 25 = .ok (.iload 4, 2) := by decide +kernel
theorem dX2_debtorsAheadOf_27 : decode cX2_debtorsAheadOf 27 = .ok (.bipush 10, 2) := by decide +kernel
theorem dX2_debtorsAheadOf_29 : decode cX2_debtorsAheadOf 29 = .ok (.if_icmp .ge 42, 3) := by decide +kernel
theorem dX2_debtorsAheadOf_32 : decode cX2_debtorsAheadOf 32 = .ok (.aload_n 0, 1) := by decide +kernel
theorem dX2_debtorsAheadOf_33 : decode cX2_debtorsAheadOf 33 = .ok (.getfield 11, 3) := by decide +kernel
theorem dX2_debtorsAheadOf_36 : decode cX2_debtorsAheadOf 36 = .ok (.iload 4, 2) := by decide +kernel
theorem dX2_debtorsAheadOf_38 : decode cX2_debtorsAheadOf 38 = .ok (.aaload, 1) := by decide +kernel
theorem dX2_debtorsAheadOf_39 : decode cX2_debtorsAheadOf 39 = .ok (.invokevirtual 85, 3) := by decide +kernel
theorem dX2_debtorsAheadOf_42 : decode cX2_debtorsAheadOf 42 = .ok (.istore 5, 2) := by decide +kernel
theorem dX2_debtorsAheadOf_44 : decode cX2_debtorsAheadOf 44 = .ok (.iload 5, 2) := by decide +kernel
theorem dX2_debtorsAheadOf_46 : decode cX2_debtorsAheadOf 46 = .ok (.iload_n 2, 1) := by decide +kernel
theorem dX2_debtorsAheadOf_47 : decode cX2_debtorsAheadOf 47 = .ok (.if_icmp .gt 15, 3) := by decide +kernel
theorem dX2_debtorsAheadOf_50 : decode cX2_debtorsAheadOf 50 = .ok (.iload 5, 2) := by decide +kernel
theorem dX2_debtorsAheadOf_52 : decode cX2_debtorsAheadOf 52 = .ok (.iload_n 2, 1) := by decide +kernel
theorem dX2_debtorsAheadOf_53 : decode cX2_debtorsAheadOf 53 = .ok (.if_icmp .ne 12, 3) := by decide +kernel
theorem dX2_debtorsAheadOf_56 : decode cX2_debtorsAheadOf 56 = .ok (.iload 4, 2) := by decide +kernel
theorem dX2_debtorsAheadOf_58 : decode cX2_debtorsAheadOf 58 = .ok (.iload_n 1, 1) := by decide +kernel
theorem dX2_debtorsAheadOf_59 : decode cX2_debtorsAheadOf 59 = .ok (.if_icmp .ge 6, 3) := by decide +kernel
theorem dX2_debtorsAheadOf_62 : decode cX2_debtorsAheadOf 62 = .ok (.iinc 3 1, 3) := by decide +kernel
theorem dX2_debtorsAheadOf_65 : decode cX2_debtorsAheadOf 65 = .ok (.iinc 4 1, 3) := by decide +kernel
theorem dX2_debtorsAheadOf_68 : decode cX2_debtorsAheadOf 68 = .ok (.goto (-43), 3) := by decide +kernel
theorem dX2_debtorsAheadOf_71 : decode cX2_debtorsAheadOf 71 = .ok (.iload_n 3, 1) := by decide +kernel
theorem dX2_debtorsAheadOf_72 : decode cX2_debtorsAheadOf 72 = .ok (.ireturn, 1) := by decide +kernel
theorem dX2_putBehindTurns_0 : decode cX2_putBehindTurns 0 = .ok (.aload_n 0, 1) := by decide +kernel
theorem dX2_putBehindTurns_1 : decode cX2_putBehindTurns 1 = .ok (.getfield 36, 3) := by decide +kernel
theorem dX2_putBehindTurns_4 : decode cX2_putBehindTurns 4 = .ok (.ifCond .lt 32, 3) := by decide +kernel
theorem dX2_putBehindTurns_7 : decode cX2_putBehindTurns 7 = .ok (.aload_n 0, 1) := by decide +kernel
theorem dX2_putBehindTurns_8 : decode cX2_putBehindTurns 8 = .ok (.getfield 36, 3) := by decide +kernel
theorem dX2_putBehindTurns_11 : decode cX2_putBehindTurns 11 = .ok (.bipush 10, 2) := by decide +kernel
theorem dX2_putBehindTurns_13 : decode cX2_putBehindTurns 13 = .ok (.if_icmp .ge 23, 3) := by decide +kernel
theorem dX2_putBehindTurns_16 : decode cX2_putBehindTurns 16 = .ok (.aload_n 0, 1) := by decide +kernel
theorem dX2_putBehindTurns_17 : decode cX2_putBehindTurns 17 = .ok (.getfield 17, 3) := by decide +kernel
theorem dX2_putBehindTurns_20 : decode cX2_putBehindTurns 20 = .ok (.aload_n 0, 1) := by decide +kernel
theorem dX2_putBehindTurns_21 : decode cX2_putBehindTurns 21 = .ok (.getfield 36, 3) := by decide +kernel
theorem dX2_putBehindTurns_24 : decode cX2_putBehindTurns 24 = .ok (.iload_n 1, 1) := by decide +kernel
theorem dX2_putBehindTurns_25 : decode cX2_putBehindTurns 25 = .ok (.iastore, 1) := by decide +kernel
theorem dX2_putBehindTurns_26 : decode cX2_putBehindTurns 26 = .ok (.aload_n 0, 1) := by decide +kernel
theorem dX2_putBehindTurns_27 : decode cX2_putBehindTurns 27 = .ok (.dup, 1) := by decide +kernel
theorem dX2_putBehindTurns_28 : decode cX2_putBehindTurns 28 = .ok (.getfield 36, 3) := by decide +kernel
theorem dX2_putBehindTurns_31 : decode cX2_putBehindTurns 31 = .ok (.iconst 1, 1) := by decide +kernel
theorem dX2_putBehindTurns_32 : decode cX2_putBehindTurns 32 = .ok (.iadd, 1) := by decide +kernel
theorem dX2_putBehindTurns_33 : decode cX2_putBehindTurns 33 = .ok (.putfield 36, 3) := by decide +kernel
theorem dX2_putBehindTurns_36 : decode cX2_putBehindTurns 36 = .ok (.return_, 1) := by decide +kernel
theorem dX2_takeOutOfTurns_0 : decode cX2_takeOutOfTurns 0 = .ok (.iconst 0, 1) := by decide +kernel
theorem dX2_takeOutOfTurns_1 : decode cX2_takeOutOfTurns 1 = .ok (.istore_n 2, 1) := by decide +kernel
theorem dX2_takeOutOfTurns_2 : decode cX2_takeOutOfTurns 2 = .ok (.iconst 0, 1) := by decide +kernel
theorem dX2_takeOutOfTurns_3 : decode cX2_takeOutOfTurns 3 = .ok (.istore_n 3, 1) := by decide +kernel
theorem dX2_takeOutOfTurns_4 : decode cX2_takeOutOfTurns 4 = .ok (.iload_n 3, 1) := by decide +kernel
theorem dX2_takeOutOfTurns_5 : decode cX2_takeOutOfTurns 5 = .ok (.bipush 10, 2) := by decide +kernel
theorem dX2_takeOutOfTurns_7 : decode cX2_takeOutOfTurns 7 = .ok (.if_icmp .ge 42, 3) := by decide +kernel
theorem dX2_takeOutOfTurns_10 : decode cX2_takeOutOfTurns 10 = .ok (.iload_n 3, 1) := by decide +kernel
theorem dX2_takeOutOfTurns_11 : decode cX2_takeOutOfTurns 11 = .ok (.aload_n 0, 1) := by decide +kernel
theorem dX2_takeOutOfTurns_12 : decode cX2_takeOutOfTurns 12 = .ok (.getfield 36, 3) := by decide +kernel
theorem dX2_takeOutOfTurns_15 : decode cX2_takeOutOfTurns 15 = .ok (.if_icmp .ge 34, 3) := by decide +kernel
theorem dX2_takeOutOfTurns_18 : decode cX2_takeOutOfTurns 18 = .ok (.aload_n 0, 1) := by decide +kernel
theorem dX2_takeOutOfTurns_19 : decode cX2_takeOutOfTurns 19 = .ok (.getfield 17, 3) := by decide +kernel
theorem dX2_takeOutOfTurns_22 : decode cX2_takeOutOfTurns 22 = .ok (.iload_n 3, 1) := by decide +kernel
theorem dX2_takeOutOfTurns_23 : decode cX2_takeOutOfTurns 23 = .ok (.iaload, 1) := by decide +kernel
theorem dX2_takeOutOfTurns_24 : decode cX2_takeOutOfTurns 24 = .ok (.iload_n 1, 1) := by decide +kernel
theorem dX2_takeOutOfTurns_25 : decode cX2_takeOutOfTurns 25 = .ok (.if_icmp .eq 18, 3) := by decide +kernel
theorem dX2_takeOutOfTurns_28 : decode cX2_takeOutOfTurns 28 = .ok (.aload_n 0, 1) := by decide +kernel
theorem dX2_takeOutOfTurns_29 : decode cX2_takeOutOfTurns 29 = .ok (.getfield 17, 3) := by decide +kernel
theorem dX2_takeOutOfTurns_32 : decode cX2_takeOutOfTurns 32 = .ok (.iload_n 2, 1) := by decide +kernel
theorem dX2_takeOutOfTurns_33 : decode cX2_takeOutOfTurns 33 = .ok (.aload_n 0, 1) := by decide +kernel
theorem dX2_takeOutOfTurns_34 : decode cX2_takeOutOfTurns 34 = .ok (.getfield 17, 3) := by decide +kernel
theorem dX2_takeOutOfTurns_37 : decode cX2_takeOutOfTurns 37 = .ok (.iload_n 3, 1) := by decide +kernel
theorem dX2_takeOutOfTurns_38 : decode cX2_takeOutOfTurns 38 = .ok (.iaload, 1) := by decide +kernel
theorem dX2_takeOutOfTurns_39 : decode cX2_takeOutOfTurns 39 = .ok (.iastore, 1) := by decide +kernel
theorem dX2_takeOutOfTurns_40 : decode cX2_takeOutOfTurns 40 = .ok (.iinc 2 1, 3) := by decide +kernel
theorem dX2_takeOutOfTurns_43 : decode cX2_takeOutOfTurns 43 = .ok (.iinc 3 1, 3) := by decide +kernel
theorem dX2_takeOutOfTurns_46 : decode cX2_takeOutOfTurns 46 = .ok (.goto (-42), 3) := by decide +kernel
theorem dX2_takeOutOfTurns_49 : decode cX2_takeOutOfTurns 49 = .ok (.aload_n 0, 1) := by decide +kernel
theorem dX2_takeOutOfTurns_50 : decode cX2_takeOutOfTurns 50 = .ok (.iload_n 2, 1) := by decide +kernel
theorem dX2_takeOutOfTurns_51 : decode cX2_takeOutOfTurns 51 = .ok (.putfield 36, 3) := by decide +kernel
theorem dX2_takeOutOfTurns_54 : decode cX2_takeOutOfTurns 54 = .ok (.return_, 1) := by decide +kernel
theorem dX2_moveToEndOfTurns_0 : decode cX2_moveToEndOfTurns 0 = .ok (.aload_n 0, 1) := by decide +kernel
theorem dX2_moveToEndOfTurns_1 : decode cX2_moveToEndOfTurns 1 = .ok (.iload_n 1, 1) := by decide +kernel
theorem dX2_moveToEndOfTurns_2 : decode cX2_moveToEndOfTurns 2 = .ok (.invokevirtual 64, 3) := by decide +kernel
theorem dX2_moveToEndOfTurns_5 : decode cX2_moveToEndOfTurns 5 = .ok (.aload_n 0, 1) := by decide +kernel
theorem dX2_moveToEndOfTurns_6 : decode cX2_moveToEndOfTurns 6 = .ok (.iload_n 1, 1) := by decide +kernel
theorem dX2_moveToEndOfTurns_7 : decode cX2_moveToEndOfTurns 7 = .ok (.invokevirtual 58, 3) := by decide +kernel
theorem dX2_moveToEndOfTurns_10 : decode cX2_moveToEndOfTurns 10 = .ok (.return_, 1) := by decide +kernel
theorem dX2_placeInTurns_0 : decode cX2_placeInTurns 0 = .ok (.iconst 0, 1) := by decide +kernel
theorem dX2_placeInTurns_1 : decode cX2_placeInTurns 1 = .ok (.istore_n 2, 1) := by decide +kernel
theorem dX2_placeInTurns_2 : decode cX2_placeInTurns 2 = .ok (.iload_n 2, 1) := by decide +kernel
theorem dX2_placeInTurns_3 : decode cX2_placeInTurns 3 = .ok (.bipush 10, 2) := by decide +kernel
theorem dX2_placeInTurns_5 : decode cX2_placeInTurns 5 = .ok (.if_icmp .ge 29, 3) := by decide +kernel
theorem dX2_placeInTurns_8 : decode cX2_placeInTurns 8 = .ok (.iload_n 2, 1) := by decide +kernel
theorem dX2_placeInTurns_9 : decode cX2_placeInTurns 9 = .ok (.aload_n 0, 1) := by decide +kernel
theorem dX2_placeInTurns_10 : decode cX2_placeInTurns 10 = .ok (.getfield 36, 3) := by decide +kernel
theorem dX2_placeInTurns_13 : decode cX2_placeInTurns 13 = .ok (.if_icmp .ge 21, 3) := by decide +kernel
theorem dX2_placeInTurns_16 : decode cX2_placeInTurns 16 = .ok (.aload_n 0, 1) := by decide +kernel
theorem dX2_placeInTurns_17 : decode cX2_placeInTurns 17 = .ok (.getfield 17, 3) := by decide +kernel
theorem dX2_placeInTurns_20 : decode cX2_placeInTurns 20 = .ok (.iload_n 2, 1) := by decide +kernel
theorem dX2_placeInTurns_21 : decode cX2_placeInTurns 21 = .ok (.iaload, 1) := by decide +kernel
theorem dX2_placeInTurns_22 : decode cX2_placeInTurns 22 = .ok (.iload_n 1, 1) := by decide +kernel
theorem dX2_placeInTurns_23 : decode cX2_placeInTurns 23 = .ok (.if_icmp .ne 5, 3) := by decide +kernel
theorem dX2_placeInTurns_26 : decode cX2_placeInTurns 26 = .ok (.iload_n 2, 1) := by decide +kernel
theorem dX2_placeInTurns_27 : decode cX2_placeInTurns 27 = .ok (.ireturn, 1) := by decide +kernel
theorem dX2_placeInTurns_28 : decode cX2_placeInTurns 28 = .ok (.iinc 2 1, 3) := by decide +kernel
theorem dX2_placeInTurns_31 : decode cX2_placeInTurns 31 = .ok (.goto (-29), 3) := by decide +kernel
theorem dX2_placeInTurns_34 : decode cX2_placeInTurns 34 = .ok (.ldc 92, 2) := by decide +kernel
theorem dX2_placeInTurns_36 : decode cX2_placeInTurns 36 = .ok (.ireturn, 1) := by decide +kernel
theorem dX2_memberInTurn_0 : decode cX2_memberInTurn 0 = .ok (.iload_n 1, 1) := by decide +kernel
theorem dX2_memberInTurn_1 : decode cX2_memberInTurn 1 = .ok (.ifCond .ge 6, 3) := by decide +kernel
theorem dX2_memberInTurn_4 : decode cX2_memberInTurn 4 = .ok (.ldc 62, 2) := by decide +kernel
theorem dX2_memberInTurn_6 : decode cX2_memberInTurn 6 = .ok (.ireturn, 1) := by decide +kernel
theorem dX2_memberInTurn_7 : decode cX2_memberInTurn 7 = .ok (.iload_n 1, 1) := by decide +kernel
theorem dX2_memberInTurn_8 : decode cX2_memberInTurn 8 = .ok (.aload_n 0, 1) := by decide +kernel
theorem dX2_memberInTurn_9 : decode cX2_memberInTurn 9 = .ok (.getfield 36, 3) := by decide +kernel
theorem dX2_memberInTurn_12 : decode cX2_memberInTurn 12 = .ok (.if_icmp .ge 18, 3) := by decide +kernel
theorem dX2_memberInTurn_15 : decode cX2_memberInTurn 15 = .ok (.iload_n 1, 1) := by decide +kernel
theorem dX2_memberInTurn_16 : decode cX2_memberInTurn 16 = .ok (.bipush 10, 2) := by decide +kernel
theorem dX2_memberInTurn_18 : decode cX2_memberInTurn 18 = .ok (.if_icmp .ge 12, 3) := by decide +kernel
theorem dX2_memberInTurn_21 : decode cX2_memberInTurn 21 = .ok (.aload_n 0, 1) := by decide +kernel
theorem dX2_memberInTurn_22 : decode cX2_memberInTurn 22 = .ok (.getfield 17, 3) := by decide +kernel
theorem dX2_memberInTurn_25 : decode cX2_memberInTurn 25 = .ok (.iload_n 1, 1) := by decide +kernel
theorem dX2_memberInTurn_26 : decode cX2_memberInTurn 26 = .ok (.iaload, 1) := by decide +kernel
theorem dX2_memberInTurn_27 : decode cX2_memberInTurn 27 = .ok (.goto 5, 3) := by decide +kernel
theorem dX2_memberInTurn_30 : decode cX2_memberInTurn 30 = .ok (.ldc 92, 2) := by decide +kernel
theorem dX2_memberInTurn_32 : decode cX2_memberInTurn 32 = .ok (.ireturn, 1) := by decide +kernel
theorem dX2_firstThereInTurns_0 : decode cX2_firstThereInTurns 0 = .ok (.iconst 0, 1) := by decide +kernel
theorem dX2_firstThereInTurns_1 : decode cX2_firstThereInTurns 1 = .ok (.istore_n 1, 1) := by decide +kernel
theorem dX2_firstThereInTurns_2 : decode cX2_firstThereInTurns 2 = .ok (.iload_n 1, 1) := by decide +kernel
theorem dX2_firstThereInTurns_3 : decode cX2_firstThereInTurns 3 = .ok (.bipush 10, 2) := by decide +kernel
theorem dX2_firstThereInTurns_5 : decode cX2_firstThereInTurns 5 = .ok (.if_icmp .ge 46, 3) := by decide +kernel
theorem dX2_firstThereInTurns_8 : decode cX2_firstThereInTurns 8 = .ok (.iload_n 1, 1) := by decide +kernel
theorem dX2_firstThereInTurns_9 : decode cX2_firstThereInTurns 9 = .ok (.aload_n 0, 1) := by decide +kernel
theorem dX2_firstThereInTurns_10 : decode cX2_firstThereInTurns 10 = .ok (.getfield 36, 3) := by decide +kernel
theorem dX2_firstThereInTurns_13 : decode cX2_firstThereInTurns 13 = .ok (.if_icmp .ge 38, 3) := by decide +kernel
theorem dX2_firstThereInTurns_16 : decode cX2_firstThereInTurns 16 = .ok (.aload_n 0, 1) := by decide +kernel
theorem dX2_firstThereInTurns_17 : decode cX2_firstThereInTurns 17 = .ok (.getfield 17, 3) := by decide +kernel
theorem dX2_firstThereInTurns_20 : decode cX2_firstThereInTurns 20 = .ok (.iload_n 1, 1) := by decide +kernel
theorem dX2_firstThereInTurns_21 : decode cX2_firstThereInTurns 21 = .ok (.iaload, 1) := by decide +kernel
theorem dX2_firstThereInTurns_22 : decode cX2_firstThereInTurns 22 = .ok (.istore_n 2, 1) := by decide +kernel
theorem dX2_firstThereInTurns_23 : decode cX2_firstThereInTurns 23 = .ok (.aload_n 0, 1) := by decide +kernel
theorem dX2_firstThereInTurns_24 : decode cX2_firstThereInTurns 24 = .ok (.iload_n 2, 1) := by decide +kernel
theorem dX2_firstThereInTurns_25 : decode cX2_firstThereInTurns 25 = .ok (.invokevirtual 42, 3) := by decide +kernel
theorem dX2_firstThereInTurns_28 : decode cX2_firstThereInTurns 28 = .ok (.ifCond .eq 17, 3) := by decide +kernel
theorem dX2_firstThereInTurns_31 : decode cX2_firstThereInTurns 31 = .ok (.aload_n 0, 1) := by decide +kernel
theorem dX2_firstThereInTurns_32 : decode cX2_firstThereInTurns 32 = .ok (.getfield 11, 3) := by decide +kernel
theorem dX2_firstThereInTurns_35 : decode cX2_firstThereInTurns 35 = .ok (.iload_n 2, 1) := by decide +kernel
theorem dX2_firstThereInTurns_36 : decode cX2_firstThereInTurns 36 = .ok (.aaload, 1) := by decide +kernel
theorem dX2_firstThereInTurns_37 : decode cX2_firstThereInTurns 37 = .ok (.invokevirtual 93, 3) := by decide +kernel
theorem dX2_firstThereInTurns_40 : decode cX2_firstThereInTurns 40 = .ok (.ifCond .eq 5, 3) := by decide +kernel
theorem dX2_firstThereInTurns_43 : decode cX2_firstThereInTurns 43 = .ok (.iload_n 2, 1) := by decide +kernel
theorem dX2_firstThereInTurns_44 : decode cX2_firstThereInTurns 44 = .ok (.ireturn, 1) := by decide +kernel
theorem dX2_firstThereInTurns_45 : decode cX2_firstThereInTurns 45 = .ok (.iinc 1 1, 3) := by decide +kernel
theorem dX2_firstThereInTurns_48 : decode cX2_firstThereInTurns 48 = .ok (.goto (-46), 3) := by decide +kernel
theorem dX2_firstThereInTurns_51 : decode cX2_firstThereInTurns 51 = .ok (.iconst (-1), 1) := by decide +kernel
theorem dX2_firstThereInTurns_52 : decode cX2_firstThereInTurns 52 = .ok (.ireturn, 1) := by decide +kernel
theorem dX2_swapTurns_0 : decode cX2_swapTurns 0 = .ok (.aload_n 0, 1) := by decide +kernel
theorem dX2_swapTurns_1 : decode cX2_swapTurns 1 = .ok (.iload_n 1, 1) := by decide +kernel
theorem dX2_swapTurns_2 : decode cX2_swapTurns 2 = .ok (.invokevirtual 42, 3) := by decide +kernel
theorem dX2_swapTurns_5 : decode cX2_swapTurns 5 = .ok (.ifCond .eq 16, 3) := by decide +kernel
theorem dX2_swapTurns_8 : decode cX2_swapTurns 8 = .ok (.aload_n 0, 1) := by decide +kernel
theorem dX2_swapTurns_9 : decode cX2_swapTurns 9 = .ok (.iload_n 2, 1) := by decide +kernel
theorem dX2_swapTurns_10 : decode cX2_swapTurns 10 = .ok (.invokevirtual 42, 3) := by decide +kernel
theorem dX2_swapTurns_13 : decode cX2_swapTurns 13 = .ok (.ifCond .eq 8, 3) := by decide +kernel
theorem dX2_swapTurns_16 : decode cX2_swapTurns 16 = .ok (.iload_n 1, 1) := by decide +kernel
theorem dX2_swapTurns_17 : decode cX2_swapTurns 17 = .ok (.iload_n 2, 1) := by decide +kernel
theorem dX2_swapTurns_18 : decode cX2_swapTurns 18 = .ok (.if_icmp .ne 6, 3) := by decide +kernel
theorem dX2_swapTurns_21 : decode cX2_swapTurns 21 = .ok (.ldc 62, 2) := by decide +kernel
theorem dX2_swapTurns_23 : decode cX2_swapTurns 23 = .ok (.ireturn, 1) := by decide +kernel
theorem dX2_swapTurns_24 : decode cX2_swapTurns 24 = .ok (.aload_n 0, 1) := by decide +kernel
theorem dX2_swapTurns_25 : decode cX2_swapTurns 25 = .ok (.iload_n 1, 1) := by decide +kernel
theorem dX2_swapTurns_26 : decode cX2_swapTurns 26 = .ok (.invokevirtual 96, 3) := by decide +kernel
theorem dX2_swapTurns_29 : decode cX2_swapTurns 29 = .ok (.istore_n 3, 1) := by decide +kernel
theorem dX2_swapTurns_30 : decode cX2_swapTurns 30 = .ok (.aload_n 0, 1) := by decide +kernel
theorem dX2_swapTurns_31 : decode cX2_swapTurns 31 = .ok (.iload_n 2, 1) := by decide +kernel
theorem dX2_swapTurns_32 : decode cX2_swapTurns 32 = .ok (.invokevirtual 96, 3) := by decide +kernel
theorem dX2_swapTurns_35 : decode cX2_swapTurns 35 = .ok (.istore 4, 2) := by decide +kernel
theorem dX2_swapTurns_37 : decode cX2_swapTurns 37 = .ok (.iload_n 3, 1) := by decide +kernel
theorem dX2_swapTurns_38 : decode cX2_swapTurns 38 = .ok (.ifCond .lt 8, 3) := by decide +kernel
theorem dX2_swapTurns_41 : decode cX2_swapTurns 41 = .ok (.iload 4, 2) := by decide +kernel
theorem dX2_swapTurns_43 : decode cX2_swapTurns 43 = .ok (.ifCond .ge 6, 3) := by decide +kernel
theorem dX2_swapTurns_46 : decode cX2_swapTurns 46 = .ok (.ldc 63, 2) := by decide +kernel
theorem dX2_swapTurns_48 : decode cX2_swapTurns 48 = .ok (.ireturn, 1) := by decide +kernel
theorem dX2_swapTurns_49 : decode cX2_swapTurns 49 = .ok (.aload_n 0, 1) := by decide +kernel
theorem dX2_swapTurns_50 : decode cX2_swapTurns 50 = .ok (.getfield 17, 3) := by decide +kernel
theorem dX2_swapTurns_53 : decode cX2_swapTurns 53 = .ok (.iload_n 3, 1) := by decide +kernel
theorem dX2_swapTurns_54 : decode cX2_swapTurns 54 = .ok (.iload_n 2, 1) := by decide +kernel
theorem dX2_swapTurns_55 : decode cX2_swapTurns 55 = .ok (.iastore, 1) := by decide +kernel
theorem dX2_swapTurns_56 : decode cX2_swapTurns 56 = .ok (.aload_n 0, 1) := by decide +kernel
theorem dX2_swapTurns_57 : decode cX2_swapTurns 57 = .ok (.getfield 17, 3) := by decide +kernel
theorem dX2_swapTurns_60 : decode cX2_swapTurns 60 = .ok (.iload 4, 2) := by decide +kernel
theorem dX2_swapTurns_62 : decode cX2_swapTurns 62 = .ok (.iload_n 1, 1) := by decide +kernel
theorem dX2_swapTurns_63 : decode cX2_swapTurns 63 = .ok (.iastore, 1) := by decide +kernel
theorem dX2_swapTurns_64 : decode cX2_swapTurns 64 = .ok (.iload 4, 2) := by decide +kernel
theorem dX2_swapTurns_66 : decode cX2_swapTurns 66 = .ok (.ireturn, 1) := by decide +kernel
theorem dX2_callPanel_0 : decode cX2_callPanel 0 = .ok (.iconst 0, 1) := by decide +kernel
theorem dX2_callPanel_1 : decode cX2_callPanel 1 = .ok (.istore_n 3, 1) := by decide +kernel
theorem dX2_callPanel_2 : decode cX2_callPanel 2 = .ok (.iconst 0, 1) := by decide +kernel
theorem dX2_callPanel_3 : decode cX2_callPanel 3 = .ok (.istore 4, 2) := by decide +kernel
theorem dX2_callPanel_5 : decode cX2_callPanel 5 = .ok (.iload 4, 2) := by decide +kernel
theorem dX2_callPanel_7 : decode cX2_callPanel 7 = .ok (.iconst 3, 1) := by decide +kernel
theorem dX2_callPanel_8 : decode cX2_callPanel 8 = .ok (.if_icmp .ge 32, 3) := by decide +kernel
theorem dX2_callPanel_11 : decode cX2_callPanel 11 = .ok (.aload_n 0, 1) := by decide +kernel
theorem dX2_callPanel_12 : decode cX2_callPanel 12 = .ok (.iload_n 1, 1) := by decide +kernel
theorem dX2_callPanel_13 : decode cX2_callPanel 13 = .ok (.iload_n 3, 1) := by decide +kernel
theorem dX2_callPanel_14 : decode cX2_callPanel 14 = .ok (.invokevirtual 99, 3) := by decide +kernel
theorem dX2_callPanel_17 : decode cX2_callPanel 17 = .ok (.istore 5, 2) := by decide +kernel
theorem dX2_callPanel_19 : decode cX2_callPanel 19 = .ok (.iload 5, 2) := by decide +kernel
theorem dX2_callPanel_21 : decode cX2_callPanel 21 = .ok (.iconst (-1), 1) := by decide +kernel
theorem dX2_callPanel_22 : decode cX2_callPanel 22 = .ok (.if_icmp .ne 5, 3) := by decide +kernel
theorem dX2_callPanel_25 : decode cX2_callPanel 25 = .ok (.iconst 0, 1) := by decide +kernel
theorem dX2_callPanel_26 : decode cX2_callPanel 26 = .ok (.ireturn, 1) := by decide +kernel
theorem dX2_callPanel_27 : decode cX2_callPanel 27 = .ok (.iload_n 3, 1) := by decide +kernel
theorem dX2_callPanel_28 : decode cX2_callPanel 28 = .ok (.iconst 1, 1) := by decide +kernel
theorem dX2_callPanel_29 : decode cX2_callPanel 29 = .ok (.iload 5, 2) := by decide +kernel
theorem dX2_callPanel_31 : decode cX2_callPanel 31 = .ok (.ishl, 1) := by decide +kernel
theorem dX2_callPanel_32 : decode cX2_callPanel 32 = .ok (.ior, 1) := by decide +kernel
theorem dX2_callPanel_33 : decode cX2_callPanel 33 = .ok (.istore_n 3, 1) := by decide +kernel
theorem dX2_callPanel_34 : decode cX2_callPanel 34 = .ok (.iinc 4 1, 3) := by decide +kernel
theorem dX2_callPanel_37 : decode cX2_callPanel 37 = .ok (.goto (-32), 3) := by decide +kernel
theorem dX2_callPanel_40 : decode cX2_callPanel 40 = .ok (.aload_n 2, 1) := by decide +kernel
theorem dX2_callPanel_41 : decode cX2_callPanel 41 = .ok (.invokevirtual 103, 3) := by decide +kernel
theorem dX2_callPanel_44 : decode cX2_callPanel 44 = .ok (.iconst 0, 1) := by decide +kernel
theorem dX2_callPanel_45 : decode cX2_callPanel 45 = .ok (.istore 4, 2) := by decide +kernel
theorem dX2_callPanel_47 : decode cX2_callPanel 47 = .ok (.iload 4, 2) := by decide +kernel
theorem dX2_callPanel_49 : decode cX2_callPanel 49 = .ok (.bipush 10, 2) := by decide +kernel
theorem dX2_callPanel_51 : decode cX2_callPanel 51 = .ok (.if_icmp .ge 42, 3) := by decide +kernel
theorem dX2_callPanel_54 : decode cX2_callPanel 54 = .ok (.iload_n 3, 1) := by decide +kernel
theorem dX2_callPanel_55 : decode cX2_callPanel 55 = .ok (.iload 4, 2) := by decide +kernel
theorem dX2_callPanel_57 : decode cX2_callPanel 57 = .ok (.ishr, 1) := by decide +kernel
theorem dX2_callPanel_58 : decode cX2_callPanel 58 = .ok (.iconst 1, 1) := by decide +kernel
theorem dX2_callPanel_59 : decode cX2_callPanel 59 = .ok (.iand, 1) := by decide +kernel
theorem dX2_callPanel_60 : decode cX2_callPanel 60 = .ok (.iconst 1, 1) := by decide +kernel
theorem dX2_callPanel_61 : decode cX2_callPanel 61 = .ok (.if_icmp .ne 26, 3) := by decide +kernel
theorem dX2_callPanel_64 : decode cX2_callPanel 64 = .ok (.aload_n 0, 1) := by decide +kernel
theorem dX2_callPanel_65 : decode cX2_callPanel 65 = .ok (.getfield 11, 3) := by decide +kernel
theorem dX2_callPanel_68 : decode cX2_callPanel 68 = .ok (.iload 4, 2) := by decide +kernel
theorem dX2_callPanel_70 : decode cX2_callPanel 70 = .ok (.aaload, 1) := by decide +kernel
theorem dX2_callPanel_71 : decode cX2_callPanel 71 = .ok (.getfield 54, 3) := by decide +kernel
theorem dX2_callPanel_74 : decode cX2_callPanel 74 = .ok (.bipush 11, 2) := by decide +kernel
theorem dX2_callPanel_76 : decode cX2_callPanel 76 = .ok (.dup2, 1) := by decide +kernel
theorem dX2_callPanel_77 : decode cX2_callPanel 77 = .ok (.iaload, 1) := by decide +kernel
theorem dX2_callPanel_78 : decode cX2_callPanel 78 = .ok (.iconst 1, 1) := by decide +kernel
theorem dX2_callPanel_79 : decode cX2_callPanel 79 = .ok (.iadd, 1) := by decide +kernel
theorem dX2_callPanel_80 : decode cX2_callPanel 80 = .ok (.iastore, 1) := by decide +kernel
theorem dX2_callPanel_81 : decode cX2_callPanel 81 = .ok (.aload_n 2, 1) := by decide +kernel
theorem dX2_callPanel_82 : decode cX2_callPanel 82 = .ok (.iload 4, 2) := by decide +kernel
theorem dX2_callPanel_84 : decode cX2_callPanel 84 = .ok (.invokevirtual 108, 3) := by decide +kernel
theorem dX2_callPanel_87 : decode cX2_callPanel 87 = .ok (.iinc 4 1, 3) := by decide +kernel
theorem dX2_callPanel_90 : decode cX2_callPanel 90 = .ok (.goto (-43), 3) := by decide +kernel
theorem dX2_callPanel_93 : decode cX2_callPanel 93 = .ok (.iconst 1, 1) := by decide +kernel
theorem dX2_callPanel_94 : decode cX2_callPanel 94 = .ok (.ireturn, 1) := by decide +kernel
theorem dX2_nextForPanel_0 : decode cX2_nextForPanel 0 = .ok (.iconst (-1), 1) := by decide +kernel
theorem dX2_nextForPanel_1 : decode cX2_nextForPanel 1 = .ok (.istore_n 3, 1) := by decide +kernel
theorem dX2_nextForPanel_2 : decode cX2_nextForPanel 2 = .ok (.iconst 0, 1) := by decide +kernel
theorem dX2_nextForPanel_3 : decode cX2_nextForPanel 3 = .ok (.istore 4, 2) := by decide +kernel
theorem dX2_nextForPanel_5 : decode cX2_nextForPanel 5 = .ok (.iconst 0, 1) := by decide +kernel
theorem dX2_nextForPanel_6 : decode cX2_nextForPanel 6 = .ok (.istore 5, 2) := by decide +kernel
theorem dX2_nextForPanel_8 : decode cX2_nextForPanel 8 = .ok (.iload 5, 2) := by decide +kernel
theorem dX2_nextForPanel_10 : decode cX2_nextForPanel 10 = .ok (.aload_n 0, 1) := by decide +kernel
theorem dX2_nextForPanel_11 : decode cX2_nextForPanel 11 = .ok (.getfield 32, 3) := by decide +kernel
theorem dX2_nextForPanel_14 : decode cX2_nextForPanel 14 = .ok (.if_icmp .ge 84, 3) := by decide +kernel
theorem dX2_nextForPanel_17 : decode cX2_nextForPanel 17 = .ok (.aload_n 0, 1) := by decide +kernel
theorem dX2_nextForPanel_18 : decode cX2_nextForPanel 18 = .ok (.iload 5, 2) := by decide +kernel
theorem dX2_nextForPanel_20 : decode cX2_nextForPanel 20 = .ok (.invokevirtual 42, 3) := by decide +kernel
theorem dX2_nextForPanel_23 : decode cX2_nextForPanel 23 = .ok (.ifCond .eq 69, 3) := by decide +kernel
theorem dX2_nextForPanel_26 : decode cX2_nextForPanel 26 = .ok (.iload 5, 2) := by decide +kernel
theorem dX2_nextForPanel_28 : decode cX2_nextForPanel 28 = .ok (.iload_n 1, 1) := by decide +kernel
theorem dX2_nextForPanel_29 : decode cX2_nextForPanel 29 = .ok (.if_icmp .eq 63, 3) := by decide +kernel
theorem dX2_nextForPanel_32 : decode cX2_nextForPanel 32 = .ok (.aload_n 0, 1) := by decide +kernel
theorem dX2_nextForPanel_33 : decode cX2_nextForPanel 33 = .ok (.getfield 11, 3) := by decide +kernel
theorem dX2_nextForPanel_36 : decode cX2_nextForPanel 36 = .ok (.iload 5, 2) := by decide +kernel
theorem dX2_nextForPanel_38 : decode cX2_nextForPanel 38 = .ok (.aaload, 1) := by decide +kernel
theorem dX2_nextForPanel_39 : decode cX2_nextForPanel 39 = .ok (.invokevirtual 93, 3) := by decide +kernel
theorem dX2_nextForPanel_42 : decode cX2_nextForPanel 42 = .ok (.ifCond .eq 50, 3) := by decide +kernel
theorem dX2_nextForPanel_45 : decode cX2_nextForPanel 45 = .ok (.iload_n 2, 1) := by decide +kernel
theorem dX2_nextForPanel_46 : decode cX2_nextForPanel 46 = .ok (.iload 5, 2) := by decide +kernel
theorem dX2_nextForPanel_48 : decode cX2_nextForPanel 48 = .ok (.ishr, 1) := by decide +kernel
theorem dX2_nextForPanel_49 : decode cX2_nextForPanel 49 = .ok (.iconst 1, 1) := by decide +kernel
theorem dX2_nextForPanel_50 : decode cX2_nextForPanel 50 = .ok (.iand, 1) := by decide +kernel
theorem dX2_nextForPanel_51 : decode cX2_nextForPanel 51 = .ok (.iconst 1, 1) := by decide +kernel
theorem dX2_nextForPanel_52 : decode cX2_nextForPanel 52 = .ok (.if_icmp .ne 6, 3) := by decide +kernel
theorem dX2_nextForPanel_55 : decode cX2_nextForPanel 55 = .ok (.goto 37, 3) := by decide +kernel
theorem dX2_nextForPanel_58 : decode cX2_nextForPanel 58 = .ok (.aload_n 0, 1) := by decide +kernel
theorem dX2_nextForPanel_59 : decode cX2_nextForPanel 59 = .ok (.getfield 11, 3) := by decide +kernel
theorem dX2_nextForPanel_62 : decode cX2_nextForPanel 62 = .ok (.iload 5, 2) := by decide +kernel
theorem dX2_nextForPanel_64 : decode cX2_nextForPanel 64 = .ok (.aaload, 1) := by decide +kernel
theorem dX2_nextForPanel_65 : decode cX2_nextForPanel 65 = .ok (.getfield 54, 3) := by decide +kernel
theorem dX2_nextForPanel_68 : decode cX2_nextForPanel 68 = .ok (.bipush 11, 2) := by decide +kernel
theorem dX2_nextForPanel_70 : decode cX2_nextForPanel 70 = .ok (.iaload, 1) := by decide +kernel
theorem dX2_nextForPanel_71 : decode cX2_nextForPanel 71 = .ok (.istore 6, 2) := by decide +kernel
theorem dX2_nextForPanel_73 : decode cX2_nextForPanel 73 = .ok (.iload_n 3, 1) := by decide +kernel
theorem dX2_nextForPanel_74 : decode cX2_nextForPanel 74 = .ok (.iconst (-1), 1) := by decide +kernel
theorem dX2_nextForPanel_75 : decode cX2_nextForPanel 75 = .ok (.if_icmp .eq 10, 3) := by decide +kernel
theorem dX2_nextForPanel_78 : decode cX2_nextForPanel 78 = .ok (.iload 6, 2) := by decide +kernel
theorem dX2_nextForPanel_80 : decode cX2_nextForPanel 80 = .ok (.iload 4, 2) := by decide +kernel
theorem dX2_nextForPanel_82 : decode cX2_nextForPanel 82 = .ok (.if_icmp .ge 10, 3) := by decide +kernel
theorem dX2_nextForPanel_85 : decode cX2_nextForPanel 85 = .ok (.iload 5, 2) := by decide +kernel
theorem dX2_nextForPanel_87 : decode cX2_nextForPanel 87 = .ok (.istore_n 3, 1) := by decide +kernel
theorem dX2_nextForPanel_88 : decode cX2_nextForPanel 88 = .ok (.iload 6, 2) := by decide +kernel
theorem dX2_nextForPanel_90 : decode cX2_nextForPanel 90 = .ok (.istore 4, 2) := by decide +kernel
theorem dX2_nextForPanel_92 : decode cX2_nextForPanel 92 = .ok (.iinc 5 1, 3) := by decide +kernel
theorem dX2_nextForPanel_95 : decode cX2_nextForPanel 95 = .ok (.goto (-87), 3) := by decide +kernel
theorem dX2_nextForPanel_98 : decode cX2_nextForPanel 98 = .ok (.iload_n 3, 1) := by decide +kernel
theorem dX2_nextForPanel_99 : decode cX2_nextForPanel 99 = .ok (.ireturn, 1) := by decide +kernel
theorem dX3_init_0 : decode cX3_init 0 = .ok (.aload_n 0, 1) := by decide +kernel
theorem dX3_init_1 : decode cX3_init 1 = .ok (.invokespecial 3, 3) := by decide +kernel
theorem dX3_init_4 : decode cX3_init 4 = .ok (.aload_n 0, 1) := by decide +kernel
theorem dX3_init_5 : decode cX3_init 5 = .ok (.bipush 60, 2) := by decide +kernel
theorem dX3_init_7 : decode cX3_init 7 = .ok (.newarray .char, 2) := by decide +kernel
theorem dX3_init_9 : decode cX3_init 9 = .ok (.putfield 9, 3) := by decide +kernel
theorem dX3_init_12 : decode cX3_init 12 = .ok (.return_, 1) := by decide +kernel
theorem dX3_append_0 : decode cX3_append 0 = .ok (.iload_n 1, 1) := by decide +kernel
theorem dX3_append_1 : decode cX3_append 1 = .ok (.bipush 32, 2) := by decide +kernel
theorem dX3_append_3 : decode cX3_append 3 = .ok (.if_icmp .lt 9, 3) := by decide +kernel
theorem dX3_append_6 : decode cX3_append 6 = .ok (.iload_n 1, 1) := by decide +kernel
theorem dX3_append_7 : decode cX3_append 7 = .ok (.bipush 126, 2) := by decide +kernel
theorem dX3_append_9 : decode cX3_append 9 = .ok (.if_icmp .le 6, 3) := by decide +kernel
theorem dX3_append_12 : decode cX3_append 12 = .ok (.ldc 15, 2) := by decide +kernel
theorem dX3_append_14 : decode cX3_append 14 = .ok (.ireturn, 1) := by decide +kernel
theorem dX3_append_15 : decode cX3_append 15 = .ok (.aload_n 0, 1) := by decide +kernel
theorem dX3_append_16 : decode cX3_append 16 = .ok (.getfield 16, 3) := by decide +kernel
theorem dX3_append_19 : decode cX3_append 19 = .ok (.ifCond .lt 12, 3) := by decide +kernel
theorem dX3_append_22 : decode cX3_append 22 = .ok (.aload_n 0, 1) := by decide +kernel
theorem dX3_append_23 : decode cX3_append 23 = .ok (.getfield 16, 3) := by decide +kernel
theorem dX3_append_26 : decode cX3_append 26 = .ok (.bipush 60, 2) := by decide +kernel
theorem dX3_append_28 : decode cX3_append 28 = .ok (.if_icmp .lt 6, 3) := by decide +kernel
theorem dX3_append_31 : decode cX3_append 31 = .ok (.ldc 20, 2) := by decide +kernel
theorem dX3_append_33 : decode cX3_append 33 = .ok (.ireturn, 1) := by decide +kernel
theorem dX3_append_34 : decode cX3_append 34 = .ok (.aload_n 0, 1) := by decide +kernel
theorem dX3_append_35 : decode cX3_append 35 = .ok (.getfield 9, 3) := by decide +kernel
theorem dX3_append_38 : decode cX3_append 38 = .ok (.aload_n 0, 1) := by decide +kernel
theorem dX3_append_39 : decode cX3_append 39 = .ok (.getfield 16, 3) := by decide +kernel
theorem dX3_append_42 : decode cX3_append 42 = .ok (.iload_n 1, 1) := by decide +kernel
theorem dX3_append_43 : decode cX3_append 43 = .ok (.i2c, 1) := by decide +kernel
theorem dX3_append_44 : decode cX3_append 44 = .ok (.castore, 1) := by decide +kernel
theorem dX3_append_45 : decode cX3_append 45 = .ok (.aload_n 0, 1) := by decide +kernel
theorem dX3_append_46 : decode cX3_append 46 = .ok (.dup, 1) := by decide +kernel
theorem dX3_append_47 : decode cX3_append 47 = .ok (.getfield 16, 3) := by decide +kernel
theorem dX3_append_50 : decode cX3_append 50 = .ok (.iconst 1, 1) := by decide +kernel
theorem dX3_append_51 : decode cX3_append 51 = .ok (.iadd, 1) := by decide +kernel
theorem dX3_append_52 : decode cX3_append 52 = .ok (.putfield 16, 3) := by decide +kernel
theorem dX3_append_55 : decode cX3_append 55 = .ok (.aload_n 0, 1) := by decide +kernel
theorem dX3_append_56 : decode cX3_append 56 = .ok (.getfield 16, 3) := by decide +kernel
theorem dX3_append_59 : decode cX3_append 59 = .ok (.ireturn, 1) := by decide +kernel
theorem dX3_empty_0 : decode cX3_empty 0 = .ok (.aload_n 0, 1) := by decide +kernel
theorem dX3_empty_1 : decode cX3_empty 1 = .ok (.getfield 16, 3) := by decide +kernel
theorem dX3_empty_4 : decode cX3_empty 4 = .ok (.istore_n 1, 1) := by decide +kernel
theorem dX3_empty_5 : decode cX3_empty 5 = .ok (.aload_n 0, 1) := by decide +kernel
theorem dX3_empty_6 : decode cX3_empty 6 = .ok (.iconst 0, 1) := by decide +kernel
theorem dX3_empty_7 : decode cX3_empty 7 = .ok (.putfield 16, 3) := by decide +kernel
theorem dX3_empty_10 : decode cX3_empty 10 = .ok (.iload_n 1, 1) := by decide +kernel
theorem dX3_empty_11 : decode cX3_empty 11 = .ok (.ireturn, 1) := by decide +kernel
theorem dX3_tryOn_0 : decode cX3_tryOn 0 = .ok (.aload_n 1, 1) := by decide +kernel
theorem dX3_tryOn_1 : decode cX3_tryOn 1 = .ok (.aload_n 2, 1) := by decide +kernel
theorem dX3_tryOn_2 : decode cX3_tryOn 2 = .ok (.invokevirtual 21, 3) := by decide +kernel
theorem dX3_tryOn_5 : decode cX3_tryOn 5 = .ok (.aload_n 0, 1) := by decide +kernel
theorem dX3_tryOn_6 : decode cX3_tryOn 6 = .ok (.iconst 0, 1) := by decide +kernel
theorem dX3_tryOn_7 : decode cX3_tryOn 7 = .ok (.putfield 27, 3) := by decide +kernel
theorem dX3_tryOn_10 : decode cX3_tryOn 10 = .ok (.aload_n 0, 1) := by decide +kernel
theorem dX3_tryOn_11 : decode cX3_tryOn 11 = .ok (.iconst 0, 1) := by decide +kernel
theorem dX3_tryOn_12 : decode cX3_tryOn 12 = .ok (.putfield 30, 3) := by decide +kernel
theorem dX3_tryOn_15 : decode cX3_tryOn 15 = .ok (.aload_n 0, 1) := by decide +kernel
theorem dX3_tryOn_16 : decode cX3_tryOn 16 = .ok (.iconst 0, 1) := by decide +kernel
theorem dX3_tryOn_17 : decode cX3_tryOn 17 = .ok (.putfield 33, 3) := by decide +kernel
theorem dX3_tryOn_20 : decode cX3_tryOn 20 = .ok (.iconst 0, 1) := by decide +kernel
theorem dX3_tryOn_21 : decode cX3_tryOn 21 = .ok (.istore_n 3, 1) := by decide +kernel
theorem dX3_tryOn_22 : decode cX3_tryOn 22 = .ok (.iload_n 3, 1) := by decide +kernel
theorem dX3_tryOn_23 : decode cX3_tryOn 23 = .ok (.bipush 60, 2) := by decide +kernel
theorem dX3_tryOn_25 : decode cX3_tryOn 25 = .ok (.if_icmp .ge 61, 3) := by decide +kernel
theorem dX3_tryOn_28 : decode cX3_tryOn 28 = .ok (.aload_n 0, 1) := by decide +kernel
theorem dX3_tryOn_29 : decode cX3_tryOn 29 = .ok (.getfield 27, 3) := by decide +kernel
theorem dX3_tryOn_32 : decode cX3_tryOn 32 = .ok (.aload_n 0, 1) := by decide +kernel
theorem dX3_tryOn_33 : decode cX3_tryOn 33 = .ok (.getfield 16, 3) := by decide +kernel
theorem dX3_tryOn_36 : decode cX3_tryOn 36 = .ok (.if_icmp .ge 50, 3) := by decide +kernel
theorem dX3_tryOn_39 : decode cX3_tryOn 39 = .ok (.aload_n 0, 1) := by decide +kernel
theorem dX3_tryOn_40 : decode cX3_tryOn 40 = .ok (.getfield 33, 3) := by decide +kernel
theorem dX3_tryOn_43 : decode cX3_tryOn 43 = .ok (.ifCond .ne 43, 3) := by decide +kernel
theorem dX3_tryOn_46 : decode cX3_tryOn 46 = .ok (.aload_n 0, 1) := by decide +kernel
theorem dX3_tryOn_47 : decode cX3_tryOn 47 = .ok (.aload_n 0, 1) := by decide +kernel
theorem dX3_tryOn_48 : decode cX3_tryOn 48 = .ok (.getfield 27, 3) := by decide +kernel
theorem dX3_tryOn_51 : decode cX3_tryOn 51 = .ok (.putfield 36, 3) := by decide +kernel
theorem dX3_tryOn_54 : decode cX3_tryOn 54 = .ok (.aload_n 0, 1) := by decide +kernel
theorem dX3_tryOn_55 : decode cX3_tryOn 55 = .ok (.aload_n 0, 1) := by decide +kernel
theorem dX3_tryOn_56 : decode cX3_tryOn 56 = .ok (.aload_n 1, 1) := by decide +kernel
theorem dX3_tryOn_57 : decode cX3_tryOn 57 = .ok (.invokevirtual 39, 3) := by decide +kernel
theorem dX3_tryOn_60 : decode cX3_tryOn 60 = .ok (.putfield 33, 3) := by decide +kernel
theorem dX3_tryOn_63 : decode cX3_tryOn 63 = .ok (.aload_n 0, 1) := by decide +kernel
theorem dX3_tryOn_64 : decode cX3_tryOn 64 = .ok (.getfield 33, 3) := by decide +kernel
theorem dX3_tryOn_67 : decode cX3_tryOn 67 = .ok (.ifCond .ne 13, 3) := by decide +kernel
theorem dX3_tryOn_70 : decode cX3_tryOn 70 = .ok (.aload_n 0, 1) := by decide +kernel
theorem dX3_tryOn_71 : decode cX3_tryOn 71 = .ok (.dup, 1) := by decide +kernel
theorem dX3_tryOn_72 : decode cX3_tryOn 72 = .ok (.getfield 30, 3) := by decide +kernel
theorem dX3_tryOn_75 : decode cX3_tryOn 75 = .ok (.iconst 1, 1) := by decide +kernel
theorem dX3_tryOn_76 : decode cX3_tryOn 76 = .ok (.iadd, 1) := by decide +kernel
theorem dX3_tryOn_77 : decode cX3_tryOn 77 = .ok (.putfield 30, 3) := by decide +kernel
theorem dX3_tryOn_80 : decode cX3_tryOn 80 = .ok (.iinc 3 1, 3) := by decide +kernel
theorem dX3_tryOn_83 : decode cX3_tryOn 83 = .ok (.goto (-61), 3) := by decide +kernel
theorem dX3_tryOn_86 : decode cX3_tryOn 86 = .ok (.return_, 1) := by decide +kernel
theorem dX3_runOrder_0 : decode cX3_runOrder 0 = .ok (.aload_n 0, 1) := by decide +kernel
theorem dX3_runOrder_1 : decode cX3_runOrder 1 = .ok (.invokevirtual 43, 3) := by decide +kernel
theorem dX3_runOrder_4 : decode cX3_runOrder 4 = .ok (.istore_n 2, 1) := by decide +kernel
theorem dX3_runOrder_5 : decode cX3_runOrder 5 = .ok (.aload_n 0, 1) := by decide +kernel
theorem dX3_runOrder_6 : decode cX3_runOrder 6 = .ok (.dup, 1) := by decide +kernel
theorem dX3_runOrder_7 : decode cX3_runOrder 7 = .ok (.getfield 27, 3) := by decide +kernel
theorem dX3_runOrder_10 : decode cX3_runOrder 10 = .ok (.iconst 1, 1) := by decide +kernel
theorem dX3_runOrder_11 : decode cX3_runOrder 11 = .ok (.iadd, 1) := by decide +kernel
theorem dX3_runOrder_12 : decode cX3_runOrder 12 = .ok (.putfield 27, 3) := by decide +kernel
theorem dX3_runOrder_15 : decode cX3_runOrder 15 = .ok (.iconst 0, 1) := by decide +kernel
theorem dX3_runOrder_16 : decode cX3_runOrder 16 = .ok (.istore_n 3, 1) := by decide +kernel
theorem dX3_runOrder_17 : decode cX3_runOrder 17 = .ok (.iconst 0, 1) := by decide +kernel
theorem dX3_runOrder_18 : decode cX3_runOrder 18 = .ok (.istore 4, 2) := by decide +kernel
theorem dX3_runOrder_20 : decode cX3_runOrder 20 = .ok (.iload_n 2, 1) := by decide +kernel
theorem dX3_runOrder_21 : decode cX3_runOrder 21 = .ok (.bipush 103, 2) := by decide +kernel
theorem dX3_runOrder_23 : decode cX3_runOrder 23 = .ok (.if_icmp .eq 9, 3) := by decide +kernel
theorem dX3_runOrder_26 : decode cX3_runOrder 26 = .ok (.iload_n 2, 1) := by decide +kernel
theorem dX3_runOrder_27 : decode cX3_runOrder 27 = .ok (.bipush 108, 2) := by decide +kernel
theorem dX3_runOrder_29 : decode cX3_runOrder 29 = .ok (.if_icmp .ne 30, 3) := by decide +kernel
theorem dX3_runOrder_32 : decode cX3_runOrder 32 = .ok (.aload_n 0, 1) := by decide +kernel
theorem dX3_runOrder_33 : decode cX3_runOrder 33 = .ok (.invokevirtual 47, 3) := by decide +kernel
theorem dX3_runOrder_36 : decode cX3_runOrder 36 = .ok (.istore_n 3, 1) := by decide +kernel
theorem dX3_runOrder_37 : decode cX3_runOrder 37 = .ok (.aload_n 0, 1) := by decide +kernel
theorem dX3_runOrder_38 : decode cX3_runOrder 38 = .ok (.bipush 44, 2) := by decide +kernel
theorem dX3_runOrder_40 : decode cX3_runOrder 40 = .ok (.invokevirtual 51, 3) := by decide +kernel
theorem dX3_runOrder_43 : decode cX3_runOrder 43 = .ok (.ifCond .eq 10, 3) := by decide +kernel
theorem dX3_runOrder_46 : decode cX3_runOrder 46 = .ok (.aload_n 0, 1) := by decide +kernel
theorem dX3_runOrder_47 : decode cX3_runOrder 47 = .ok (.invokevirtual 47, 3) := by decide +kernel
theorem dX3_runOrder_50 : decode cX3_runOrder 50 = .ok (.goto 4, 3) := by decide +kernel
theorem dX3_runOrder_53 : decode cX3_runOrder 53 = .ok (.iconst (-1), 1) := by decide +kernel
theorem dX3_runOrder_54 : decode cX3_runOrder 54 = .ok (.istore 4, 2) := by decide +kernel
theorem dX3_runOrder_56 : decode cX3_runOrder 56 = .ok (.goto 25, 3) := by decide +kernel
theorem dX3_runOrder_59 : decode cX3_runOrder 59 = .ok (.iload_n 2, 1) := by decide +kernel
theorem dX3_runOrder_60 : decode cX3_runOrder 60 = .ok (.bipush 98, 2) := by decide +kernel
theorem dX3_runOrder_62 : decode cX3_runOrder 62 = .ok (.if_icmp .ne 11, 3) := by decide +kernel
theorem dX3_runOrder_65 : decode cX3_runOrder 65 = .ok (.aload_n 0, 1) := by decide +kernel
theorem dX3_runOrder_66 : decode cX3_runOrder 66 = .ok (.invokevirtual 47, 3) := by decide +kernel
theorem dX3_runOrder_69 : decode cX3_runOrder 69 = .ok (.istore_n 3, 1) := by decide +kernel
theorem dX3_runOrder_70 : decode cX3_runOrder 70 = .ok (.goto 11, 3) := by decide +kernel
theorem dX3_runOrder_73 : decode cX3_runOrder 73 = .ok (.iload_n 2, 1) := by decide +kernel
theorem dX3_runOrder_74 : decode cX3_runOrder 74 = .ok (.bipush 115, 2) := by decide +kernel
theorem dX3_runOrder_76 : decode cX3_runOrder 76 = .ok (.if_icmp .eq 5, 3) := by decide +kernel
theorem dX3_runOrder_79 : decode cX3_runOrder 79 = .ok (.iconst 1, 1) := by decide +kernel
theorem dX3_runOrder_80 : decode cX3_runOrder 80 = .ok (.ireturn, 1) := by decide +kernel
theorem dX3_runOrder_81 : decode cX3_runOrder 81 = .ok (.iload_n 3, 1) := by decide +kernel
theorem dX3_runOrder_82 : decode cX3_runOrder 82 = .ok (.ifCond .lt 17, 3) := by decide +kernel
theorem dX3_runOrder_85 : decode cX3_runOrder 85 = .ok (.iload 4, 2) := by decide +kernel
theorem dX3_runOrder_87 : decode cX3_runOrder 87 = .ok (.ifCond .lt 12, 3) := by decide +kernel
theorem dX3_runOrder_90 : decode cX3_runOrder 90 = .ok (.aload_n 0, 1) := by decide +kernel
theorem dX3_runOrder_91 : decode cX3_runOrder 91 = .ok (.bipush 59, 2) := by decide +kernel
theorem dX3_runOrder_93 : decode cX3_runOrder 93 = .ok (.invokevirtual 51, 3) := by decide +kernel
theorem dX3_runOrder_96 : decode cX3_runOrder 96 = .ok (.ifCond .ne 5, 3) := by decide +kernel
theorem dX3_runOrder_99 : decode cX3_runOrder 99 = .ok (.iconst 1, 1) := by decide +kernel
theorem dX3_runOrder_100 : decode cX3_runOrder 100 = .ok (.ireturn, 1) := by decide +kernel
theorem dX3_runOrder_101 : decode cX3_runOrder 101 = .ok (.aload_n 0, 1) := by decide +kernel
theorem dX3_runOrder_102 : decode cX3_runOrder 102 = .ok (.aload_n 1, 1) := by decide +kernel
theorem dX3_runOrder_103 : decode cX3_runOrder 103 = .ok (.iload_n 2, 1) := by decide +kernel
theorem dX3_runOrder_104 : decode cX3_runOrder 104 = .ok (.iload_n 3, 1) := by decide +kernel
theorem dX3_runOrder_105 : decode cX3_runOrder 105 = .ok (.iload 4, 2) := by decide +kernel
theorem dX3_runOrder_107 : decode cX3_runOrder 107 = .ok (.invokevirtual 55, 3) := by decide +kernel
theorem dX3_runOrder_110 : decode cX3_runOrder 110 = .ok (.ireturn, 1) := by decide +kernel
theorem dX3_carryOut_0 : decode cX3_carryOut 0 = .ok (.iconst 1, 1) := by decide +kernel
theorem dX3_carryOut_1 : decode cX3_carryOut 1 = .ok (.istore 5, 2) := by decide +kernel
theorem dX3_carryOut_3 : decode cX3_carryOut 3 = .ok (.iload_n 2, 1) := by decide +kernel
theorem dX3_carryOut_4 : decode cX3_carryOut 4 = .ok (.bipush 103, 2) := by decide +kernel
theorem dX3_carryOut_6 : decode cX3_carryOut 6 = .ok (.if_icmp .ne 28, 3) := by decide +kernel
theorem dX3_carryOut_9 : decode cX3_carryOut 9 = .ok (.aload_n 1, 1) := by decide +kernel
theorem dX3_carryOut_10 : decode cX3_carryOut 10 = .ok (.getfield 59, 3) := by decide +kernel
theorem dX3_carryOut_13 : decode cX3_carryOut 13 = .ok (.iload_n 3, 1) := by decide +kernel
theorem dX3_carryOut_14 : decode cX3_carryOut 14 = .ok (.invokevirtual 63, 3) := by decide +kernel
theorem dX3_carryOut_17 : decode cX3_carryOut 17 = .ok (.istore 5, 2) := by decide +kernel
theorem dX3_carryOut_19 : decode cX3_carryOut 19 = .ok (.aload_n 1, 1) := by decide +kernel
theorem dX3_carryOut_20 : decode cX3_carryOut 20 = .ok (.getfield 59, 3) := by decide +kernel
theorem dX3_carryOut_23 : decode cX3_carryOut 23 = .ok (.iload_n 3, 1) := by decide +kernel
theorem dX3_carryOut_24 : decode cX3_carryOut 24 = .ok (.iload 4, 2) := by decide +kernel
theorem dX3_carryOut_26 : decode cX3_carryOut 26 = .ok (.invokevirtual 69, 3) := by decide +kernel
theorem dX3_carryOut_29 : decode cX3_carryOut 29 = .ok (.istore 6, 2) := by decide +kernel
theorem dX3_carryOut_31 : decode cX3_carryOut 31 = .ok (.goto 77, 3) := by decide +kernel
theorem dX3_carryOut_34 : decode cX3_carryOut 34 = .ok (.iload_n 2, 1) := by decide +kernel
theorem dX3_carryOut_35 : decode cX3_carryOut 35 = .ok (.bipush 108, 2) := by decide +kernel
theorem dX3_carryOut_37 : decode cX3_carryOut 37 = .ok (.if_icmp .ne 42, 3) := by decide +kernel
theorem dX3_carryOut_40 : decode cX3_carryOut 40 = .ok (.aload_n 1, 1) := by decide +kernel
theorem dX3_carryOut_41 : decode cX3_carryOut 41 = .ok (.iload_n 3, 1) := by decide +kernel
theorem dX3_carryOut_42 : decode cX3_carryOut 42 = .ok (.invokevirtual 73, 3) := by decide +kernel
theorem dX3_carryOut_45 : decode cX3_carryOut 45 = .ok (.ifCond .eq 19, 3) := by decide +kernel
theorem dX3_carryOut_48 : decode cX3_carryOut 48 = .ok (.aload_n 1, 1) := by decide +kernel
theorem dX3_carryOut_49 : decode cX3_carryOut 49 = .ok (.getfield 59, 3) := by decide +kernel
theorem dX3_carryOut_52 : decode cX3_carryOut 52 = .ok (.iload 4, 2) := by decide +kernel
theorem dX3_carryOut_54 : decode cX3_carryOut 54 = .ok (.invokevirtual 63, 3) := by decide +kernel
theorem dX3_carryOut_57 : decode cX3_carryOut 57 = .ok (.ifCond .eq 7, 3) := by decide +kernel
theorem dX3_carryOut_60 : decode cX3_carryOut 60 = .ok (.iconst 1, 1) := by decide +kernel
theorem dX3_carryOut_61 : decode cX3_carryOut 61 = .ok (.goto 4, 3) := by decide +kernel
theorem dX3_carryOut_64 : decode cX3_carryOut 64 = .ok (.iconst 0, 1) := by decide +kernel
theorem dX3_carryOut_65 : decode cX3_carryOut 65 = .ok (.istore 5, 2) := by decide +kernel
theorem dX3_carryOut_67 : decode cX3_carryOut 67 = .ok (.aload_n 1, 1) := by decide +kernel
theorem dX3_carryOut_68 : decode cX3_carryOut 68 = .ok (.iload_n 3, 1) := by decide +kernel
theorem dX3_carryOut_69 : decode cX3_carryOut 69 = .ok (.iload 4, 2) := by decide +kernel
theorem dX3_carryOut_71 : decode cX3_carryOut 71 = .ok (.invokevirtual 76, 3) := by decide +kernel
theorem dX3_carryOut_74 : decode cX3_carryOut 74 = .ok (.istore 6, 2) := by decide +kernel
theorem dX3_carryOut_76 : decode cX3_carryOut 76 = .ok (.goto 32, 3) := by decide +kernel
theorem dX3_carryOut_79 : decode cX3_carryOut 79 = .ok (.iload_n 2, 1) := by decide +kernel
theorem dX3_carryOut_80 : decode cX3_carryOut 80 = .ok (.bipush 98, 2) := by decide +kernel
theorem dX3_carryOut_82 : decode cX3_carryOut 82 = .ok (.if_icmp .ne 20, 3) := by decide +kernel
theorem dX3_carryOut_85 : decode cX3_carryOut 85 = .ok (.aload_n 1, 1) := by decide +kernel
theorem dX3_carryOut_86 : decode cX3_carryOut 86 = .ok (.iload_n 3, 1) := by decide +kernel
theorem dX3_carryOut_87 : decode cX3_carryOut 87 = .ok (.invokevirtual 73, 3) := by decide +kernel
theorem dX3_carryOut_90 : decode cX3_carryOut 90 = .ok (.istore 5, 2) := by decide +kernel
theorem dX3_carryOut_92 : decode cX3_carryOut 92 = .ok (.aload_n 1, 1) := by decide +kernel
theorem dX3_carryOut_93 : decode cX3_carryOut 93 = .ok (.iload_n 3, 1) := by decide +kernel
theorem dX3_carryOut_94 : decode cX3_carryOut 94 = .ok (.invokevirtual 79, 3) := by decide +kernel
theorem dX3_carryOut_97 : decode cX3_carryOut 97 = .ok (.istore 6, 2) := by decide +kernel
theorem dX3_carryOut_99 : decode cX3_carryOut 99 = .ok (.goto 9, 3) := by decide +kernel
theorem dX3_carryOut_102 : decode cX3_carryOut 102 = .ok (.aload_n 1, 1) := by decide +kernel
theorem dX3_carryOut_103 : decode cX3_carryOut 103 = .ok (.invokevirtual 83, 3) := by decide +kernel
theorem dX3_carryOut_106 : decode cX3_carryOut 106 = .ok (.istore 6, 2) := by decide +kernel
theorem dX3_carryOut_108 : decode cX3_carryOut 108 = .ok (.iload 6, 2) := by decide +kernel
theorem dX3_carryOut_110 : decode cX3_carryOut 110 = .ok (.ifCond .lt 5, 3) := by decide +kernel
theorem dX3_carryOut_113 : decode cX3_carryOut 113 = .ok (.iconst 0, 1) := by decide +kernel
theorem dX3_carryOut_114 : decode cX3_carryOut 114 = .ok (.ireturn, 1) := by decide +kernel
theorem dX3_carryOut_115 : decode cX3_carryOut 115 = .ok (.iload 5, 2) := by decide +kernel
theorem dX3_carryOut_117 : decode cX3_carryOut 117 = .ok (.ifCond .eq 7, 3) := by decide +kernel
theorem dX3_carryOut_120 : decode cX3_carryOut 120 = .ok (.iconst 3, 1) := by decide +kernel
theorem dX3_carryOut_121 : decode cX3_carryOut 121 = .ok (.goto 4, 3) := by decide +kernel
theorem dX3_carryOut_124 : decode cX3_carryOut 124 = .ok (.iconst 2, 1) := by decide +kernel
theorem dX3_carryOut_125 : decode cX3_carryOut 125 = .ok (.ireturn, 1) := by decide +kernel
theorem dX3_peek_0 : decode cX3_peek 0 = .ok (.aload_n 0, 1) := by decide +kernel
theorem dX3_peek_1 : decode cX3_peek 1 = .ok (.getfield 27, 3) := by decide +kernel
theorem dX3_peek_4 : decode cX3_peek 4 = .ok (.ifCond .lt 35, 3) := by decide +kernel
theorem dX3_peek_7 : decode cX3_peek 7 = .ok (.aload_n 0, 1) := by decide +kernel
theorem dX3_peek_8 : decode cX3_peek 8 = .ok (.getfield 27, 3) := by decide +kernel
theorem dX3_peek_11 : decode cX3_peek 11 = .ok (.aload_n 0, 1) := by decide +kernel
theorem dX3_peek_12 : decode cX3_peek 12 = .ok (.getfield 16, 3) := by decide +kernel
theorem dX3_peek_15 : decode cX3_peek 15 = .ok (.if_icmp .ge 24, 3) := by decide +kernel
theorem dX3_peek_18 : decode cX3_peek 18 = .ok (.aload_n 0, 1) := by decide +kernel
theorem dX3_peek_19 : decode cX3_peek 19 = .ok (.getfield 27, 3) := by decide +kernel
theorem dX3_peek_22 : decode cX3_peek 22 = .ok (.bipush 60, 2) := by decide +kernel
theorem dX3_peek_24 : decode cX3_peek 24 = .ok (.if_icmp .ge 15, 3) := by decide +kernel
theorem dX3_peek_27 : decode cX3_peek 27 = .ok (.aload_n 0, 1) := by decide +kernel
theorem dX3_peek_28 : decode cX3_peek 28 = .ok (.getfield 9, 3) := by decide +kernel
theorem dX3_peek_31 : decode cX3_peek 31 = .ok (.aload_n 0, 1) := by decide +kernel
theorem dX3_peek_32 : decode cX3_peek 32 = .ok (.getfield 27, 3) := by decide +kernel
theorem dX3_peek_35 : decode cX3_peek 35 = .ok (.caload, 1) := by decide +kernel
theorem dX3_peek_36 : decode cX3_peek 36 = .ok (.goto 4, 3) := by decide +kernel
theorem dX3_peek_39 : decode cX3_peek 39 = .ok (.iconst 0, 1) := by decide +kernel
theorem dX3_peek_40 : decode cX3_peek 40 = .ok (.ireturn, 1) := by decide +kernel
theorem dX3_takes_0 : decode cX3_takes 0 = .ok (.aload_n 0, 1) := by decide +kernel
theorem dX3_takes_1 : decode cX3_takes 1 = .ok (.invokevirtual 43, 3) := by decide +kernel
theorem dX3_takes_4 : decode cX3_takes 4 = .ok (.iload_n 1, 1) := by decide +kernel
theorem dX3_takes_5 : decode cX3_takes 5 = .ok (.if_icmp .eq 5, 3) := by decide +kernel
theorem dX3_takes_8 : decode cX3_takes 8 = .ok (.iconst 0, 1) := by decide +kernel
theorem dX3_takes_9 : decode cX3_takes 9 = .ok (.ireturn, 1) := by decide +kernel
theorem dX3_takes_10 : decode cX3_takes 10 = .ok (.aload_n 0, 1) := by decide +kernel
theorem dX3_takes_11 : decode cX3_takes 11 = .ok (.dup, 1) := by decide +kernel
theorem dX3_takes_12 : decode cX3_takes 12 = .ok (.getfield 27, 3) := by decide +kernel
theorem dX3_takes_15 : decode cX3_takes 15 = .ok (.iconst 1, 1) := by decide +kernel
theorem dX3_takes_16 : decode cX3_takes 16 = .ok (.iadd, 1) := by decide +kernel
theorem dX3_takes_17 : decode cX3_takes 17 = .ok (.putfield 27, 3) := by decide +kernel
theorem dX3_takes_20 : decode cX3_takes 20 = .ok (.iconst 1, 1) := by decide +kernel
theorem dX3_takes_21 : decode cX3_takes 21 = .ok (.ireturn, 1) := by decide +kernel
theorem dX3_readNumber_0 : decode cX3_readNumber 0 = .ok (.iconst (-1), 1) := by decide +kernel
theorem dX3_readNumber_1 : decode cX3_readNumber 1 = .ok (.istore_n 1, 1) := by decide +kernel
theorem dX3_readNumber_2 : decode cX3_readNumber 2 = .ok (.iconst 0, 1) := by decide +kernel
theorem dX3_readNumber_3 : decode cX3_readNumber 3 = .ok (.istore_n 2, 1) := by decide +kernel
theorem dX3_readNumber_4 : decode cX3_readNumber 4 = .ok (.iload_n 2, 1) := by decide +kernel
theorem dX3_readNumber_5 : decode cX3_readNumber 5 = .ok (.iconst 3, 1) := by decide +kernel
theorem dX3_readNumber_6 : decode cX3_readNumber 6 = .ok (.if_icmp .ge 52, 3) := by decide +kernel
theorem dX3_readNumber_9 : decode cX3_readNumber 9 = .ok (.aload_n 0, 1) := by decide +kernel
theorem dX3_readNumber_10 : decode cX3_readNumber 10 = .ok (.invokevirtual 43, 3) := by decide +kernel
theorem dX3_readNumber_13 : decode cX3_readNumber 13 = .ok (.istore_n 3, 1) := by decide +kernel
theorem dX3_readNumber_14 : decode cX3_readNumber 14 = .ok (.iload_n 3, 1) := by decide +kernel
theorem dX3_readNumber_15 : decode cX3_readNumber 15 = .ok (.bipush 48, 2) := by decide +kernel
theorem dX3_readNumber_17 : decode cX3_readNumber 17 = .ok (.if_icmp .lt 9, 3) := by decide +kernel
theorem dX3_readNumber_20 : decode cX3_readNumber 20 = .ok (.iload_n 3, 1) := by decide +kernel
theorem dX3_readNumber_21 : decode cX3_readNumber 21 = .ok (.bipush 57, 2) := by decide +kernel
theorem dX3_readNumber_23 : decode cX3_readNumber 23 = .ok (.if_icmp .le 5, 3) := by decide +kernel
theorem dX3_readNumber_26 : decode cX3_readNumber 26 = .ok (.iload_n 1, 1) := by decide +kernel
theorem dX3_readNumber_27 : decode cX3_readNumber 27 = .ok (.ireturn, 1) := by decide +kernel
theorem dX3_readNumber_28 : decode cX3_readNumber 28 = .ok (.iconst 0, 1) := by decide +kernel
theorem dX3_readNumber_29 : decode cX3_readNumber 29 = .ok (.iload_n 1, 1) := by decide +kernel
theorem dX3_readNumber_30 : decode cX3_readNumber 30 = .ok (.invokestatic 86, 3) := by decide +kernel
theorem dX3_readNumber_33 : decode cX3_readNumber 33 = .ok (.bipush 10, 2) := by decide +kernel
theorem dX3_readNumber_35 : decode cX3_readNumber 35 = .ok (.imul, 1) := by decide +kernel
theorem dX3_readNumber_36 : decode cX3_readNumber 36 = .ok (.iload_n 3, 1) := by decide +kernel
theorem dX3_readNumber_37 : decode cX3_readNumber 37 = .ok (.bipush 48, 2) := by decide +kernel
theorem dX3_readNumber_39 : decode cX3_readNumber 39 = .ok (.isub, 1) := by decide +kernel
theorem dX3_readNumber_40 : decode cX3_readNumber 40 = .ok (.iadd, 1) := by decide +kernel
theorem dX3_readNumber_41 : decode cX3_readNumber 41 = .ok (.istore_n 1, 1) := by decide +kernel
theorem dX3_readNumber_42 : decode cX3_readNumber 42 = .ok (.aload_n 0, 1) := by decide +kernel
theorem dX3_readNumber_43 : decode cX3_readNumber 43 = .ok (.dup, 1) := by decide +kernel
theorem dX3_readNumber_44 : decode cX3_readNumber 44 = .ok (.getfield 27, 3) := by decide +kernel
theorem dX3_readNumber_47 : decode cX3_readNumber 47 = .ok (.iconst 1, 1) := by decide +kernel
theorem dX3_readNumber_48 : decode cX3_readNumber 48 = .ok (.iadd, 1) := by decide +kernel
theorem dX3_readNumber_49 : decode cX3_readNumber 49 = .ok (.putfield 27, 3) := by decide +kernel
theorem dX3_readNumber_52 : decode cX3_readNumber 52 = .ok (.iinc 2 1, 3) := by decide +kernel
theorem dX3_readNumber_55 : decode cX3_readNumber 55 = .ok (.goto (-51), 3) := by decide +kernel
theorem dX3_readNumber_58 : decode cX3_readNumber 58 = .ok (.iload_n 1, 1) := by decide +kernel
theorem dX3_readNumber_59 : decode cX3_readNumber 59 = .ok (.ireturn, 1) := by decide +kernel
theorem dX4_init_0 : decode cX4_init 0 = .ok (.aload_n 0, 1) := by decide +kernel
theorem dX4_init_1 : decode cX4_init 1 = .ok (.invokespecial 3, 3) := by decide +kernel
theorem dX4_init_4 : decode cX4_init 4 = .ok (.aload_n 0, 1) := by decide +kernel
theorem dX4_init_5 : decode cX4_init 5 = .ok (.iconst 3, 1) := by decide +kernel
theorem dX4_init_6 : decode cX4_init 6 = .ok (.newarray .int, 2) := by decide +kernel
theorem dX4_init_8 : decode cX4_init 8 = .ok (.putfield 9, 3) := by decide +kernel
theorem dX4_init_11 : decode cX4_init 11 = .ok (.aload_n 0, 1) := by decide +kernel
theorem dX4_init_12 : decode cX4_init 12 = .ok (.iconst 3, 1) := by decide +kernel
theorem dX4_init_13 : decode cX4_init 13 = .ok (.newarray .int, 2) := by decide +kernel
theorem dX4_init_15 : decode cX4_init 15 = .ok (.putfield 15, 3) := by decide +kernel
theorem dX4_init_18 : decode cX4_init 18 = .ok (.return_, 1) := by decide +kernel
theorem dX4_copyFrom_0 : decode cX4_copyFrom 0 = .ok (.aload_n 1, 1) := by decide +kernel
theorem dX4_copyFrom_1 : decode cX4_copyFrom 1 = .ok (.getfield 9, 3) := by decide +kernel
theorem dX4_copyFrom_4 : decode cX4_copyFrom 4 = .ok (.iconst 0, 1) := by decide +kernel
theorem dX4_copyFrom_5 : decode cX4_copyFrom 5 = .ok (.aload_n 0, 1) := by decide +kernel
theorem dX4_copyFrom_6 : decode cX4_copyFrom 6 = .ok (.getfield 9, 3) := by decide +kernel
theorem dX4_copyFrom_9 : decode cX4_copyFrom 9 = .ok (.iconst 0, 1) := by decide +kernel
theorem dX4_copyFrom_10 : decode cX4_copyFrom 10 = .ok (.iconst 3, 1) := by decide +kernel
theorem dX4_copyFrom_11 : decode cX4_copyFrom 11 = .ok (.invokestatic 18, 3) := by decide +kernel
theorem dX4_copyFrom_14 : decode cX4_copyFrom 14 = .ok (.aload_n 1, 1) := by decide +kernel
theorem dX4_copyFrom_15 : decode cX4_copyFrom 15 = .ok (.getfield 15, 3) := by decide +kernel
theorem dX4_copyFrom_18 : decode cX4_copyFrom 18 = .ok (.iconst 0, 1) := by decide +kernel
theorem dX4_copyFrom_19 : decode cX4_copyFrom 19 = .ok (.aload_n 0, 1) := by decide +kernel
theorem dX4_copyFrom_20 : decode cX4_copyFrom 20 = .ok (.getfield 15, 3) := by decide +kernel
theorem dX4_copyFrom_23 : decode cX4_copyFrom 23 = .ok (.iconst 0, 1) := by decide +kernel
theorem dX4_copyFrom_24 : decode cX4_copyFrom 24 = .ok (.iconst 3, 1) := by decide +kernel
theorem dX4_copyFrom_25 : decode cX4_copyFrom 25 = .ok (.invokestatic 18, 3) := by decide +kernel
theorem dX4_copyFrom_28 : decode cX4_copyFrom 28 = .ok (.aload_n 0, 1) := by decide +kernel
theorem dX4_copyFrom_29 : decode cX4_copyFrom 29 = .ok (.aload_n 1, 1) := by decide +kernel
theorem dX4_copyFrom_30 : decode cX4_copyFrom 30 = .ok (.getfield 24, 3) := by decide +kernel
theorem dX4_copyFrom_33 : decode cX4_copyFrom 33 = .ok (.putfield 24, 3) := by decide +kernel
theorem dX4_copyFrom_36 : decode cX4_copyFrom 36 = .ok (.return_, 1) := by decide +kernel
theorem dX4_begin_0 : decode cX4_begin 0 = .ok (.aload_n 0, 1) := by decide +kernel
theorem dX4_begin_1 : decode cX4_begin 1 = .ok (.iconst 0, 1) := by decide +kernel
theorem dX4_begin_2 : decode cX4_begin 2 = .ok (.putfield 24, 3) := by decide +kernel
theorem dX4_begin_5 : decode cX4_begin 5 = .ok (.return_, 1) := by decide +kernel
theorem dX4_seat_0 : decode cX4_seat 0 = .ok (.aload_n 0, 1) := by decide +kernel
theorem dX4_seat_1 : decode cX4_seat 1 = .ok (.getfield 24, 3) := by decide +kernel
theorem dX4_seat_4 : decode cX4_seat 4 = .ok (.ifCond .lt 41, 3) := by decide +kernel
theorem dX4_seat_7 : decode cX4_seat 7 = .ok (.aload_n 0, 1) := by decide +kernel
theorem dX4_seat_8 : decode cX4_seat 8 = .ok (.getfield 24, 3) := by decide +kernel
theorem dX4_seat_11 : decode cX4_seat 11 = .ok (.iconst 3, 1) := by decide +kernel
theorem dX4_seat_12 : decode cX4_seat 12 = .ok (.if_icmp .ge 33, 3) := by decide +kernel
theorem dX4_seat_15 : decode cX4_seat 15 = .ok (.aload_n 0, 1) := by decide +kernel
theorem dX4_seat_16 : decode cX4_seat 16 = .ok (.getfield 9, 3) := by decide +kernel
theorem dX4_seat_19 : decode cX4_seat 19 = .ok (.aload_n 0, 1) := by decide +kernel
theorem dX4_seat_20 : decode cX4_seat 20 = .ok (.getfield 24, 3) := by decide +kernel
theorem dX4_seat_23 : decode cX4_seat 23 = .ok (.iload_n 1, 1) := by decide +kernel
theorem dX4_seat_24 : decode cX4_seat 24 = .ok (.iastore, 1) := by decide +kernel
theorem dX4_seat_25 : decode cX4_seat 25 = .ok (.aload_n 0, 1) := by decide +kernel
theorem dX4_seat_26 : decode cX4_seat 26 = .ok (.getfield 15, 3) := by decide +kernel
theorem dX4_seat_29 : decode cX4_seat 29 = .ok (.aload_n 0, 1) := by decide +kernel
theorem dX4_seat_30 : decode cX4_seat 30 = .ok (.getfield 24, 3) := by decide +kernel
theorem dX4_seat_33 : decode cX4_seat 33 = .ok (.iconst (-1), 1) := by decide +kernel
theorem dX4_seat_34 : decode cX4_seat 34 = .ok (.iastore, 1) := by decide +kernel
theorem dX4_seat_35 : decode cX4_seat 35 = .ok (.aload_n 0, 1) := by decide +kernel
theorem dX4_seat_36 : decode cX4_seat 36 = .ok (.dup, 1) := by decide +kernel
theorem dX4_seat_37 : decode cX4_seat 37 = .ok (.getfield 24, 3) := by decide +kernel
theorem dX4_seat_40 : decode cX4_seat 40 = .ok (.iconst 1, 1) := by decide +kernel
theorem dX4_seat_41 : decode cX4_seat 41 = .ok (.iadd, 1) := by decide +kernel
theorem dX4_seat_42 : decode cX4_seat 42 = .ok (.putfield 24, 3) := by decide +kernel
theorem dX4_seat_45 : decode cX4_seat 45 = .ok (.return_, 1) := by decide +kernel
theorem dX4_hasSeated_0 : decode cX4_hasSeated 0 = .ok (.iconst 0, 1) := by decide +kernel
theorem dX4_hasSeated_1 : decode cX4_hasSeated 1 = .ok (.istore_n 2, 1) := by decide +kernel
theorem dX4_hasSeated_2 : decode cX4_hasSeated 2 = .ok (.iload_n 2, 1) := by decide +kernel
theorem dX4_hasSeated_3 : decode cX4_hasSeated 3 = .ok (.iconst 3, 1) := by decide +kernel
theorem dX4_hasSeated_4 : decode cX4_hasSeated 4 = .ok (.if_icmp .ge 21, 3) := by decide +kernel
theorem dX4_hasSeated_7 : decode cX4_hasSeated 7 = .ok (.aload_n 0, 1) := by decide +kernel
theorem dX4_hasSeated_8 : decode cX4_hasSeated 8 = .ok (.getfield 9, 3) := by decide +kernel
theorem dX4_hasSeated_11 : decode cX4_hasSeated 11 = .ok (.iload_n 2, 1) := by decide +kernel
theorem dX4_hasSeated_12 : decode cX4_hasSeated 12 = .ok (.iaload, 1) := by decide +kernel
theorem dX4_hasSeated_13 : decode cX4_hasSeated 13 = .ok (.iload_n 1, 1) := by decide +kernel
theorem dX4_hasSeated_14 : decode cX4_hasSeated 14 = .ok (.if_icmp .ne 5, 3) := by decide +kernel
theorem dX4_hasSeated_17 : decode cX4_hasSeated 17 = .ok (.iconst 1, 1) := by decide +kernel
theorem dX4_hasSeated_18 : decode cX4_hasSeated 18 = .ok (.ireturn, 1) := by decide +kernel
theorem dX4_hasSeated_19 : decode cX4_hasSeated 19 = .ok (.iinc 2 1, 3) := by decide +kernel
theorem dX4_hasSeated_22 : decode cX4_hasSeated 22 = .ok (.goto (-20), 3) := by decide +kernel
theorem dX4_hasSeated_25 : decode cX4_hasSeated 25 = .ok (.iconst 0, 1) := by decide +kernel
theorem dX4_hasSeated_26 : decode cX4_hasSeated 26 = .ok (.ireturn, 1) := by decide +kernel
theorem dX4_hears_0 : decode cX4_hears 0 = .ok (.iconst 0, 1) := by decide +kernel
theorem dX4_hears_1 : decode cX4_hears 1 = .ok (.istore_n 3, 1) := by decide +kernel
theorem dX4_hears_2 : decode cX4_hears 2 = .ok (.iload_n 3, 1) := by decide +kernel
theorem dX4_hears_3 : decode cX4_hears 3 = .ok (.iconst 3, 1) := by decide +kernel
theorem dX4_hears_4 : decode cX4_hears 4 = .ok (.if_icmp .ge 38, 3) := by decide +kernel
theorem dX4_hears_7 : decode cX4_hears 7 = .ok (.aload_n 0, 1) := by decide +kernel
theorem dX4_hears_8 : decode cX4_hears 8 = .ok (.getfield 9, 3) := by decide +kernel
theorem dX4_hears_11 : decode cX4_hears 11 = .ok (.iload_n 3, 1) := by decide +kernel
theorem dX4_hears_12 : decode cX4_hears 12 = .ok (.iaload, 1) := by decide +kernel
theorem dX4_hears_13 : decode cX4_hears 13 = .ok (.iload_n 1, 1) := by decide +kernel
theorem dX4_hears_14 : decode cX4_hears 14 = .ok (.if_icmp .ne 22, 3) := by decide +kernel
theorem dX4_hears_17 : decode cX4_hears 17 = .ok (.aload_n 0, 1) := by decide +kernel
theorem dX4_hears_18 : decode cX4_hears 18 = .ok (.getfield 15, 3) := by decide +kernel
theorem dX4_hears_21 : decode cX4_hears 21 = .ok (.iload_n 3, 1) := by decide +kernel
theorem dX4_hears_22 : decode cX4_hears 22 = .ok (.iaload, 1) := by decide +kernel
theorem dX4_hears_23 : decode cX4_hears 23 = .ok (.iconst (-1), 1) := by decide +kernel
theorem dX4_hears_24 : decode cX4_hears 24 = .ok (.if_icmp .ne 12, 3) := by decide +kernel
theorem dX4_hears_27 : decode cX4_hears 27 = .ok (.aload_n 0, 1) := by decide +kernel
theorem dX4_hears_28 : decode cX4_hears 28 = .ok (.getfield 15, 3) := by decide +kernel
theorem dX4_hears_31 : decode cX4_hears 31 = .ok (.iload_n 3, 1) := by decide +kernel
theorem dX4_hears_32 : decode cX4_hears 32 = .ok (.iload_n 2, 1) := by decide +kernel
theorem dX4_hears_33 : decode cX4_hears 33 = .ok (.iastore, 1) := by decide +kernel
theorem dX4_hears_34 : decode cX4_hears 34 = .ok (.iconst 1, 1) := by decide +kernel
theorem dX4_hears_35 : decode cX4_hears 35 = .ok (.ireturn, 1) := by decide +kernel
theorem dX4_hears_36 : decode cX4_hears 36 = .ok (.iinc 3 1, 3) := by decide +kernel
theorem dX4_hears_39 : decode cX4_hears 39 = .ok (.goto (-37), 3) := by decide +kernel
theorem dX4_hears_42 : decode cX4_hears 42 = .ok (.iconst 0, 1) := by decide +kernel
theorem dX4_hears_43 : decode cX4_hears 43 = .ok (.ireturn, 1) := by decide +kernel
theorem dX4_countOfWord_0 : decode cX4_countOfWord 0 = .ok (.iconst 0, 1) := by decide +kernel
theorem dX4_countOfWord_1 : decode cX4_countOfWord 1 = .ok (.istore_n 2, 1) := by decide +kernel
theorem dX4_countOfWord_2 : decode cX4_countOfWord 2 = .ok (.iconst 0, 1) := by decide +kernel
theorem dX4_countOfWord_3 : decode cX4_countOfWord 3 = .ok (.istore_n 3, 1) := by decide +kernel
theorem dX4_countOfWord_4 : decode cX4_countOfWord 4 = .ok (.iload_n 3, 1) := by decide +kernel
theorem dX4_countOfWord_5 : decode cX4_countOfWord 5 = .ok (.iconst 3, 1) := by decide +kernel
theorem dX4_countOfWord_6 : decode cX4_countOfWord 6 = .ok (.if_icmp .ge 22, 3) := by decide +kernel
theorem dX4_countOfWord_9 : decode cX4_countOfWord 9 = .ok (.aload_n 0, 1) := by decide +kernel
theorem dX4_countOfWord_10 : decode cX4_countOfWord 10 = .ok (.getfield 15, 3) := by decide +kernel
theorem dX4_countOfWord_13 : decode cX4_countOfWord 13 = .ok (.iload_n 3, 1) := by decide +kernel
theorem dX4_countOfWord_14 : decode cX4_countOfWord 14 = .ok (.iaload, 1) := by decide +kernel
theorem dX4_countOfWord_15 : decode cX4_countOfWord 15 = .ok (.iload_n 1, 1) := by decide +kernel
theorem dX4_countOfWord_16 : decode cX4_countOfWord 16 = .ok (.if_icmp .ne 6, 3) := by decide +kernel
theorem dX4_countOfWord_19 : decode cX4_countOfWord 19 = .ok (.iinc 2 1, 3) := by decide +kernel
theorem dX4_countOfWord_22 : decode cX4_countOfWord 22 = .ok (.iinc 3 1, 3) := by decide +kernel
theorem dX4_countOfWord_25 : decode cX4_countOfWord 25 = .ok (.goto (-21), 3) := by decide +kernel
theorem dX4_countOfWord_28 : decode cX4_countOfWord 28 = .ok (.iload_n 2, 1) := by decide +kernel
theorem dX4_countOfWord_29 : decode cX4_countOfWord 29 = .ok (.ireturn, 1) := by decide +kernel
theorem dX4_countOfSpeakers_0 : decode cX4_countOfSpeakers 0 = .ok (.iconst 3, 1) := by decide +kernel
theorem dX4_countOfSpeakers_1 : decode cX4_countOfSpeakers 1 = .ok (.aload_n 0, 1) := by decide +kernel
theorem dX4_countOfSpeakers_2 : decode cX4_countOfSpeakers 2 = .ok (.iconst (-1), 1) := by decide +kernel
theorem dX4_countOfSpeakers_3 : decode cX4_countOfSpeakers 3 = .ok (.invokevirtual 28, 3) := by decide +kernel
theorem dX4_countOfSpeakers_6 : decode cX4_countOfSpeakers 6 = .ok (.isub, 1) := by decide +kernel
theorem dX4_countOfSpeakers_7 : decode cX4_countOfSpeakers 7 = .ok (.ireturn, 1) := by decide +kernel
theorem dX4_decision_0 : decode cX4_decision 0 = .ok (.iconst 0, 1) := by decide +kernel
theorem dX4_decision_1 : decode cX4_decision 1 = .ok (.istore_n 1, 1) := by decide +kernel
theorem dX4_decision_2 : decode cX4_decision 2 = .ok (.iload_n 1, 1) := by decide +kernel
theorem dX4_decision_3 : decode cX4_decision 3 = .ok (.iconst 2, 1) := by decide +kernel
theorem dX4_decision_4 : decode cX4_decision 4 = .ok (.if_icmp .gt 20, 3) := by decide +kernel
theorem dX4_decision_7 : decode cX4_decision 7 = .ok (.aload_n 0, 1) := by decide +kernel
theorem dX4_decision_8 : decode cX4_decision 8 = .ok (.iload_n 1, 1) := by decide +kernel
theorem dX4_decision_9 : decode cX4_decision 9 = .ok (.invokevirtual 28, 3) := by decide +kernel
theorem dX4_decision_12 : decode cX4_decision 12 = .ok (.iconst 2, 1) := by decide +kernel
theorem dX4_decision_13 : decode cX4_decision 13 = .ok (.if_icmp .lt 5, 3) := by decide +kernel
theorem dX4_decision_16 : decode cX4_decision 16 = .ok (.iload_n 1, 1) := by decide +kernel
theorem dX4_decision_17 : decode cX4_decision 17 = .ok (.ireturn, 1) := by decide +kernel
theorem dX4_decision_18 : decode cX4_decision 18 = .ok (.iinc 1 1, 3) := by decide +kernel
theorem dX4_decision_21 : decode cX4_decision 21 = .ok (.goto (-19), 3) := by decide +kernel
theorem dX4_decision_24 : decode cX4_decision 24 = .ok (.aload_n 0, 1) := by decide +kernel
theorem dX4_decision_25 : decode cX4_decision 25 = .ok (.invokevirtual 32, 3) := by decide +kernel
theorem dX4_decision_28 : decode cX4_decision 28 = .ok (.iconst 3, 1) := by decide +kernel
theorem dX4_decision_29 : decode cX4_decision 29 = .ok (.if_icmp .ne 7, 3) := by decide +kernel
theorem dX4_decision_32 : decode cX4_decision 32 = .ok (.iconst 2, 1) := by decide +kernel
theorem dX4_decision_33 : decode cX4_decision 33 = .ok (.goto 4, 3) := by decide +kernel
theorem dX4_decision_36 : decode cX4_decision 36 = .ok (.iconst 3, 1) := by decide +kernel
theorem dX4_decision_37 : decode cX4_decision 37 = .ok (.ireturn, 1) := by decide +kernel
theorem dX5_init_0 : decode cX5_init 0 = .ok (.aload_n 0, 1) := by decide +kernel
theorem dX5_init_1 : decode cX5_init 1 = .ok (.invokespecial 3, 3) := by decide +kernel
theorem dX5_init_4 : decode cX5_init 4 = .ok (.return_, 1) := by decide +kernel
theorem dX5_copyFrom_0 : decode cX5_copyFrom 0 = .ok (.aload_n 0, 1) := by decide +kernel
theorem dX5_copyFrom_1 : decode cX5_copyFrom 1 = .ok (.aload_n 1, 1) := by decide +kernel
theorem dX5_copyFrom_2 : decode cX5_copyFrom 2 = .ok (.getfield 9, 3) := by decide +kernel
theorem dX5_copyFrom_5 : decode cX5_copyFrom 5 = .ok (.putfield 9, 3) := by decide +kernel
theorem dX5_copyFrom_8 : decode cX5_copyFrom 8 = .ok (.aload_n 0, 1) := by decide +kernel
theorem dX5_copyFrom_9 : decode cX5_copyFrom 9 = .ok (.aload_n 1, 1) := by decide +kernel
theorem dX5_copyFrom_10 : decode cX5_copyFrom 10 = .ok (.getfield 15, 3) := by decide +kernel
theorem dX5_copyFrom_13 : decode cX5_copyFrom 13 = .ok (.putfield 15, 3) := by decide +kernel
theorem dX5_copyFrom_16 : decode cX5_copyFrom 16 = .ok (.aload_n 0, 1) := by decide +kernel
theorem dX5_copyFrom_17 : decode cX5_copyFrom 17 = .ok (.aload_n 1, 1) := by decide +kernel
theorem dX5_copyFrom_18 : decode cX5_copyFrom 18 = .ok (.getfield 19, 3) := by decide +kernel
theorem dX5_copyFrom_21 : decode cX5_copyFrom 21 = .ok (.putfield 19, 3) := by decide +kernel
theorem dX5_copyFrom_24 : decode cX5_copyFrom 24 = .ok (.aload_n 0, 1) := by decide +kernel
theorem dX5_copyFrom_25 : decode cX5_copyFrom 25 = .ok (.aload_n 1, 1) := by decide +kernel
theorem dX5_copyFrom_26 : decode cX5_copyFrom 26 = .ok (.getfield 22, 3) := by decide +kernel
theorem dX5_copyFrom_29 : decode cX5_copyFrom 29 = .ok (.putfield 22, 3) := by decide +kernel
theorem dX5_copyFrom_32 : decode cX5_copyFrom 32 = .ok (.aload_n 0, 1) := by decide +kernel
theorem dX5_copyFrom_33 : decode cX5_copyFrom 33 = .ok (.aload_n 1, 1) := by decide +kernel
theorem dX5_copyFrom_34 : decode cX5_copyFrom 34 = .ok (.getfield 25, 3) := by decide +kernel
theorem dX5_copyFrom_37 : decode cX5_copyFrom 37 = .ok (.putfield 25, 3) := by decide +kernel
theorem dX5_copyFrom_40 : decode cX5_copyFrom 40 = .ok (.aload_n 0, 1) := by decide +kernel
theorem dX5_copyFrom_41 : decode cX5_copyFrom 41 = .ok (.aload_n 1, 1) := by decide +kernel
theorem dX5_copyFrom_42 : decode cX5_copyFrom 42 = .ok (.getfield 28, 3) := by decide +kernel
theorem dX5_copyFrom_45 : decode cX5_copyFrom 45 = .ok (.putfield 28, 3) := by decide +kernel
theorem dX5_copyFrom_48 : decode cX5_copyFrom 48 = .ok (.aload_n 0, 1) := by decide +kernel
theorem dX5_copyFrom_49 : decode cX5_copyFrom 49 = .ok (.aload_n 1, 1) := by decide +kernel
theorem dX5_copyFrom_50 : decode cX5_copyFrom 50 = .ok (.getfield 31, 3) := by decide +kernel
theorem dX5_copyFrom_53 : decode cX5_copyFrom 53 = .ok (.putfield 31, 3) := by decide +kernel
theorem dX5_copyFrom_56 : decode cX5_copyFrom 56 = .ok (.return_, 1) := by decide +kernel
theorem dX5_begin_0 : decode cX5_begin 0 = .ok (.aload_n 0, 1) := by decide +kernel
theorem dX5_begin_1 : decode cX5_begin 1 = .ok (.iconst 1, 1) := by decide +kernel
theorem dX5_begin_2 : decode cX5_begin 2 = .ok (.putfield 9, 3) := by decide +kernel
theorem dX5_begin_5 : decode cX5_begin 5 = .ok (.aload_n 0, 1) := by decide +kernel
theorem dX5_begin_6 : decode cX5_begin 6 = .ok (.iload_n 1, 1) := by decide +kernel
theorem dX5_begin_7 : decode cX5_begin 7 = .ok (.putfield 15, 3) := by decide +kernel
theorem dX5_begin_10 : decode cX5_begin 10 = .ok (.aload_n 0, 1) := by decide +kernel
theorem dX5_begin_11 : decode cX5_begin 11 = .ok (.iload_n 2, 1) := by decide +kernel
theorem dX5_begin_12 : decode cX5_begin 12 = .ok (.putfield 19, 3) := by decide +kernel
theorem dX5_begin_15 : decode cX5_begin 15 = .ok (.aload_n 0, 1) := by decide +kernel
theorem dX5_begin_16 : decode cX5_begin 16 = .ok (.iload_n 3, 1) := by decide +kernel
theorem dX5_begin_17 : decode cX5_begin 17 = .ok (.putfield 22, 3) := by decide +kernel
theorem dX5_begin_20 : decode cX5_begin 20 = .ok (.aload_n 0, 1) := by decide +kernel
theorem dX5_begin_21 : decode cX5_begin 21 = .ok (.iconst 0, 1) := by decide +kernel
theorem dX5_begin_22 : decode cX5_begin 22 = .ok (.putfield 25, 3) := by decide +kernel
theorem dX5_begin_25 : decode cX5_begin 25 = .ok (.aload_n 0, 1) := by decide +kernel
theorem dX5_begin_26 : decode cX5_begin 26 = .ok (.iconst 0, 1) := by decide +kernel
theorem dX5_begin_27 : decode cX5_begin 27 = .ok (.putfield 28, 3) := by decide +kernel
theorem dX5_begin_30 : decode cX5_begin 30 = .ok (.aload_n 0, 1) := by decide +kernel
theorem dX5_begin_31 : decode cX5_begin 31 = .ok (.iconst 0, 1) := by decide +kernel
theorem dX5_begin_32 : decode cX5_begin 32 = .ok (.putfield 31, 3) := by decide +kernel
theorem dX5_begin_35 : decode cX5_begin 35 = .ok (.return_, 1) := by decide +kernel
theorem dX5_hasVoteOf_0 : decode cX5_hasVoteOf 0 = .ok (.aload_n 0, 1) := by decide +kernel
theorem dX5_hasVoteOf_1 : decode cX5_hasVoteOf 1 = .ok (.getfield 31, 3) := by decide +kernel
theorem dX5_hasVoteOf_4 : decode cX5_hasVoteOf 4 = .ok (.iload_n 1, 1) := by decide +kernel
theorem dX5_hasVoteOf_5 : decode cX5_hasVoteOf 5 = .ok (.ishr, 1) := by decide +kernel
theorem dX5_hasVoteOf_6 : decode cX5_hasVoteOf 6 = .ok (.iconst 1, 1) := by decide +kernel
theorem dX5_hasVoteOf_7 : decode cX5_hasVoteOf 7 = .ok (.iand, 1) := by decide +kernel
theorem dX5_hasVoteOf_8 : decode cX5_hasVoteOf 8 = .ok (.iconst 1, 1) := by decide +kernel
theorem dX5_hasVoteOf_9 : decode cX5_hasVoteOf 9 = .ok (.if_icmp .ne 7, 3) := by decide +kernel
theorem dX5_hasVoteOf_12 : decode cX5_hasVoteOf 12 = .ok (.iconst 1, 1) := by decide +kernel
theorem dX5_hasVoteOf_13 : decode cX5_hasVoteOf 13 = .ok (.goto 4, 3) := by decide +kernel
theorem dX5_hasVoteOf_16 : decode cX5_hasVoteOf 16 = .ok (.iconst 0, 1) := by decide +kernel
theorem dX5_hasVoteOf_17 : decode cX5_hasVoteOf 17 = .ok (.ireturn, 1) := by decide +kernel
theorem dX5_countVote_0 : decode cX5_countVote 0 = .ok (.aload_n 0, 1) := by decide +kernel
theorem dX5_countVote_1 : decode cX5_countVote 1 = .ok (.dup, 1) := by decide +kernel
theorem dX5_countVote_2 : decode cX5_countVote 2 = .ok (.getfield 31, 3) := by decide +kernel
theorem dX5_countVote_5 : decode cX5_countVote 5 = .ok (.iconst 1, 1) := by decide +kernel
theorem dX5_countVote_6 : decode cX5_countVote 6 = .ok (.iload_n 1, 1) := by decide +kernel
theorem dX5_countVote_7 : decode cX5_countVote 7 = .ok (.ishl, 1) := by decide +kernel
theorem dX5_countVote_8 : decode cX5_countVote 8 = .ok (.ior, 1) := by decide +kernel
theorem dX5_countVote_9 : decode cX5_countVote 9 = .ok (.putfield 31, 3) := by decide +kernel
theorem dX5_countVote_12 : decode cX5_countVote 12 = .ok (.iload_n 2, 1) := by decide +kernel
theorem dX5_countVote_13 : decode cX5_countVote 13 = .ok (.ifCond .eq 16, 3) := by decide +kernel
theorem dX5_countVote_16 : decode cX5_countVote 16 = .ok (.aload_n 0, 1) := by decide +kernel
theorem dX5_countVote_17 : decode cX5_countVote 17 = .ok (.dup, 1) := by decide +kernel
theorem dX5_countVote_18 : decode cX5_countVote 18 = .ok (.getfield 25, 3) := by decide +kernel
theorem dX5_countVote_21 : decode cX5_countVote 21 = .ok (.iconst 1, 1) := by decide +kernel
theorem dX5_countVote_22 : decode cX5_countVote 22 = .ok (.iadd, 1) := by decide +kernel
theorem dX5_countVote_23 : decode cX5_countVote 23 = .ok (.putfield 25, 3) := by decide +kernel
theorem dX5_countVote_26 : decode cX5_countVote 26 = .ok (.goto 13, 3) := by decide +kernel
theorem dX5_countVote_29 : decode cX5_countVote 29 = .ok (.aload_n 0, 1) := by decide +kernel
theorem dX5_countVote_30 : decode cX5_countVote 30 = .ok (.dup, 1) := by decide +kernel
theorem dX5_countVote_31 : decode cX5_countVote 31 = .ok (.getfield 28, 3) := by decide +kernel
theorem dX5_countVote_34 : decode cX5_countVote 34 = .ok (.iconst 1, 1) := by decide +kernel
theorem dX5_countVote_35 : decode cX5_countVote 35 = .ok (.iadd, 1) := by decide +kernel
theorem dX5_countVote_36 : decode cX5_countVote 36 = .ok (.putfield 28, 3) := by decide +kernel
theorem dX5_countVote_39 : decode cX5_countVote 39 = .ok (.return_, 1) := by decide +kernel
theorem dX5_outcome_0 : decode cX5_outcome 0 = .ok (.iconst 2, 1) := by decide +kernel
theorem dX5_outcome_1 : decode cX5_outcome 1 = .ok (.aload_n 0, 1) := by decide +kernel
theorem dX5_outcome_2 : decode cX5_outcome 2 = .ok (.getfield 25, 3) := by decide +kernel
theorem dX5_outcome_5 : decode cX5_outcome 5 = .ok (.imul, 1) := by decide +kernel
theorem dX5_outcome_6 : decode cX5_outcome 6 = .ok (.iload_n 1, 1) := by decide +kernel
theorem dX5_outcome_7 : decode cX5_outcome 7 = .ok (.if_icmp .le 5, 3) := by decide +kernel
theorem dX5_outcome_10 : decode cX5_outcome 10 = .ok (.iconst 1, 1) := by decide +kernel
theorem dX5_outcome_11 : decode cX5_outcome 11 = .ok (.ireturn, 1) := by decide +kernel
theorem dX5_outcome_12 : decode cX5_outcome 12 = .ok (.iconst 2, 1) := by decide +kernel
theorem dX5_outcome_13 : decode cX5_outcome 13 = .ok (.aload_n 0, 1) := by decide +kernel
theorem dX5_outcome_14 : decode cX5_outcome 14 = .ok (.getfield 28, 3) := by decide +kernel
theorem dX5_outcome_17 : decode cX5_outcome 17 = .ok (.imul, 1) := by decide +kernel
theorem dX5_outcome_18 : decode cX5_outcome 18 = .ok (.iload_n 1, 1) := by decide +kernel
theorem dX5_outcome_19 : decode cX5_outcome 19 = .ok (.if_icmp .lt 7, 3) := by decide +kernel
theorem dX5_outcome_22 : decode cX5_outcome 22 = .ok (.iconst 0, 1) := by decide +kernel
theorem dX5_outcome_23 : decode cX5_outcome 23 = .ok (.goto 4, 3) := by decide +kernel
theorem dX5_outcome_26 : decode cX5_outcome 26 = .ok (.iconst 2, 1) := by decide +kernel
theorem dX5_outcome_27 : decode cX5_outcome 27 = .ok (.ireturn, 1) := by decide +kernel
theorem dX5_tell_0 : decode cX5_tell 0 = .ok (.iload_n 1, 1) := by decide +kernel
theorem dX5_tell_1 : decode cX5_tell 1 = .ok (.tableswitch 60 0 4 #[35, 40, 45, 50, 55], 35) := by decide +kernel
theorem dX5_tell_36 : decode cX5_tell 36 = .ok (.aload_n 0, 1) := by decide +kernel
theorem dX5_tell_37 : decode cX5_tell 37 = .ok (.getfield 15, 3) := by decide +kernel
theorem dX5_tell_40 : decode cX5_tell 40 = .ok (.ireturn, 1) := by decide +kernel
theorem dX5_tell_41 : decode cX5_tell 41 = .ok (.aload_n 0, 1) := by decide +kernel
theorem dX5_tell_42 : decode cX5_tell 42 = .ok (.getfield 19, 3) := by decide +kernel
theorem dX5_tell_45 : decode cX5_tell 45 = .ok (.ireturn, 1) := by decide +kernel
theorem dX5_tell_46 : decode cX5_tell 46 = .ok (.aload_n 0, 1) := by decide +kernel
theorem dX5_tell_47 : decode cX5_tell 47 = .ok (.getfield 22, 3) := by decide +kernel
theorem dX5_tell_50 : decode cX5_tell 50 = .ok (.ireturn, 1) := by decide +kernel
theorem dX5_tell_51 : decode cX5_tell 51 = .ok (.aload_n 0, 1) := by decide +kernel
theorem dX5_tell_52 : decode cX5_tell 52 = .ok (.getfield 25, 3) := by decide +kernel
theorem dX5_tell_55 : decode cX5_tell 55 = .ok (.ireturn, 1) := by decide +kernel
theorem dX5_tell_56 : decode cX5_tell 56 = .ok (.aload_n 0, 1) := by decide +kernel
theorem dX5_tell_57 : decode cX5_tell 57 = .ok (.getfield 28, 3) := by decide +kernel
theorem dX5_tell_60 : decode cX5_tell 60 = .ok (.ireturn, 1) := by decide +kernel
theorem dX5_tell_61 : decode cX5_tell 61 = .ok (.ldc 34, 2) := by decide +kernel
theorem dX5_tell_63 : decode cX5_tell 63 = .ok (.ireturn, 1) := by decide +kernel
theorem dX6_init_0 : decode cX6_init 0 = .ok (.aload_n 0, 1) := by decide +kernel
theorem dX6_init_1 : decode cX6_init 1 = .ok (.invokespecial 3, 3) := by decide +kernel
theorem dX6_init_4 : decode cX6_init 4 = .ok (.aload_n 0, 1) := by decide +kernel
theorem dX6_init_5 : decode cX6_init 5 = .ok (.bipush 7, 2) := by decide +kernel
theorem dX6_init_7 : decode cX6_init 7 = .ok (.newarray .int, 2) := by decide +kernel
theorem dX6_init_9 : decode cX6_init 9 = .ok (.putfield 9, 3) := by decide +kernel
theorem dX6_init_12 : decode cX6_init 12 = .ok (.aload_n 0, 1) := by decide +kernel
theorem dX6_init_13 : decode cX6_init 13 = .ok (.new 15, 3) := by decide +kernel
theorem dX6_init_16 : decode cX6_init 16 = .ok (.dup, 1) := by decide +kernel
theorem dX6_init_17 : decode cX6_init 17 = .ok (.invokespecial 17, 3) := by decide +kernel
theorem dX6_init_20 : decode cX6_init 20 = .ok (.putfield 18, 3) := by decide +kernel
theorem dX6_init_23 : decode cX6_init 23 = .ok (.aload_n 0, 1) := by decide +kernel
theorem dX6_init_24 : decode cX6_init 24 = .ok (.bipush 20, 2) := by decide +kernel
theorem dX6_init_26 : decode cX6_init 26 = .ok (.anewarray 22, 3) := by decide +kernel
theorem dX6_init_29 : decode cX6_init 29 = .ok (.putfield 24, 3) := by decide +kernel
theorem dX6_init_32 : decode cX6_init 32 = .ok (.getstatic 28, 3) := by decide +kernel
theorem dX6_init_35 : decode cX6_init 35 = .ok (.iconst 0, 1) := by decide +kernel
theorem dX6_init_36 : decode cX6_init 36 = .ok (.aload_n 0, 1) := by decide +kernel
theorem dX6_init_37 : decode cX6_init 37 = .ok (.getfield 9, 3) := by decide +kernel
theorem dX6_init_40 : decode cX6_init 40 = .ok (.iconst 0, 1) := by decide +kernel
theorem dX6_init_41 : decode cX6_init 41 = .ok (.bipush 7, 2) := by decide +kernel
theorem dX6_init_43 : decode cX6_init 43 = .ok (.invokestatic 31, 3) := by decide +kernel
theorem dX6_init_46 : decode cX6_init 46 = .ok (.iconst 0, 1) := by decide +kernel
theorem dX6_init_47 : decode cX6_init 47 = .ok (.istore_n 1, 1) := by decide +kernel
theorem dX6_init_48 : decode cX6_init 48 = .ok (.iload_n 1, 1) := by decide +kernel
theorem dX6_init_49 : decode cX6_init 49 = .ok (.bipush 20, 2) := by decide +kernel
theorem dX6_init_51 : decode cX6_init 51 = .ok (.if_icmp .ge 22, 3) := by decide +kernel
theorem dX6_init_54 : decode cX6_init 54 = .ok (.aload_n 0, 1) := by decide +kernel
theorem dX6_init_55 : decode cX6_init 55 = .ok (.getfield 24, 3) := by decide +kernel
theorem dX6_init_58 : decode cX6_init 58 = .ok (.iload_n 1, 1) := by decide +kernel
theorem dX6_init_59 : decode cX6_init 59 = .ok (.new 22, 3) := by decide +kernel
theorem dX6_init_62 : decode cX6_init 62 = .ok (.dup, 1) := by decide +kernel
theorem dX6_init_63 : decode cX6_init 63 = .ok (.invokespecial 37, 3) := by decide +kernel
theorem dX6_init_66 : decode cX6_init 66 = .ok (.aastore, 1) := by decide +kernel
theorem dX6_init_67 : decode cX6_init 67 = .ok (.iinc 1 1, 3) := by decide +kernel
theorem dX6_init_70 : decode cX6_init 70 = .ok (.goto (-22), 3) := by decide +kernel
theorem dX6_init_73 : decode cX6_init 73 = .ok (.return_, 1) := by decide +kernel
theorem dX6_copyFrom_0 : decode cX6_copyFrom 0 = .ok (.aload_n 1, 1) := by decide +kernel
theorem dX6_copyFrom_1 : decode cX6_copyFrom 1 = .ok (.getfield 9, 3) := by decide +kernel
theorem dX6_copyFrom_4 : decode cX6_copyFrom 4 = .ok (.iconst 0, 1) := by decide +kernel
theorem dX6_copyFrom_5 : decode cX6_copyFrom 5 = .ok (.aload_n 0, 1) := by decide +kernel
theorem dX6_copyFrom_6 : decode cX6_copyFrom 6 = .ok (.getfield 9, 3) := by decide +kernel
theorem dX6_copyFrom_9 : decode cX6_copyFrom 9 = .ok (.iconst 0, 1) := by decide +kernel
theorem dX6_copyFrom_10 : decode cX6_copyFrom 10 = .ok (.bipush 7, 2) := by decide +kernel
theorem dX6_copyFrom_12 : decode cX6_copyFrom 12 = .ok (.invokestatic 31, 3) := by decide +kernel
theorem dX6_copyFrom_15 : decode cX6_copyFrom 15 = .ok (.aload_n 0, 1) := by decide +kernel
theorem dX6_copyFrom_16 : decode cX6_copyFrom 16 = .ok (.getfield 18, 3) := by decide +kernel
theorem dX6_copyFrom_19 : decode cX6_copyFrom 19 = .ok (.aload_n 1, 1) := by decide +kernel
theorem dX6_copyFrom_20 : decode cX6_copyFrom 20 = .ok (.getfield 18, 3) := by decide +kernel
theorem dX6_copyFrom_23 : decode cX6_copyFrom 23 = .ok (.invokevirtual 38, 3) := by decide +kernel
theorem dX6_copyFrom_26 : decode cX6_copyFrom 26 = .ok (.iconst 0, 1) := by decide +kernel
theorem dX6_copyFrom_27 : decode cX6_copyFrom 27 = .ok (.istore_n 2, 1) := by decide +kernel
theorem dX6_copyFrom_28 : decode cX6_copyFrom 28 = .ok (.iload_n 2, 1) := by decide +kernel
theorem dX6_copyFrom_29 : decode cX6_copyFrom 29 = .ok (.bipush 20, 2) := by decide +kernel
theorem dX6_copyFrom_31 : decode cX6_copyFrom 31 = .ok (.if_icmp .ge 24, 3) := by decide +kernel
theorem dX6_copyFrom_34 : decode cX6_copyFrom 34 = .ok (.aload_n 0, 1) := by decide +kernel
theorem dX6_copyFrom_35 : decode cX6_copyFrom 35 = .ok (.getfield 24, 3) := by decide +kernel
theorem dX6_copyFrom_38 : decode cX6_copyFrom 38 = .ok (.iload_n 2, 1) := by decide +kernel
theorem dX6_copyFrom_39 : decode cX6_copyFrom 39 = .ok (.aaload, 1) := by decide +kernel
theorem dX6_copyFrom_40 : decode cX6_copyFrom 40 = .ok (.aload_n 1, 1) := by decide +kernel
theorem dX6_copyFrom_41 : decode cX6_copyFrom 41 = .ok (.getfield 24, 3) := by decide +kernel
theorem dX6_copyFrom_44 : decode cX6_copyFrom 44 = .ok (.iload_n 2, 1) := by decide +kernel
theorem dX6_copyFrom_45 : decode cX6_copyFrom 45 = .ok (.aaload, 1) := by decide +kernel
theorem dX6_copyFrom_46 : decode cX6_copyFrom 46 = .ok (.invokevirtual 42, 3) := by decide +kernel
theorem dX6_copyFrom_49 : decode cX6_copyFrom 49 = .ok (.iinc 2 1, 3) := by decide +kernel
theorem dX6_copyFrom_52 : decode cX6_copyFrom 52 = .ok (.goto (-24), 3) := by decide +kernel
theorem dX6_copyFrom_55 : decode cX6_copyFrom 55 = .ok (.aload_n 0, 1) := by decide +kernel
theorem dX6_copyFrom_56 : decode cX6_copyFrom 56 = .ok (.aload_n 1, 1) := by decide +kernel
theorem dX6_copyFrom_57 : decode cX6_copyFrom 57 = .ok (.getfield 45, 3) := by decide +kernel
theorem dX6_copyFrom_60 : decode cX6_copyFrom 60 = .ok (.putfield 45, 3) := by decide +kernel
theorem dX6_copyFrom_63 : decode cX6_copyFrom 63 = .ok (.aload_n 0, 1) := by decide +kernel
theorem dX6_copyFrom_64 : decode cX6_copyFrom 64 = .ok (.aload_n 1, 1) := by decide +kernel
theorem dX6_copyFrom_65 : decode cX6_copyFrom 65 = .ok (.getfield 49, 3) := by decide +kernel
theorem dX6_copyFrom_68 : decode cX6_copyFrom 68 = .ok (.putfield 49, 3) := by decide +kernel
theorem dX6_copyFrom_71 : decode cX6_copyFrom 71 = .ok (.return_, 1) := by decide +kernel
theorem dX6_hasTool_0 : decode cX6_hasTool 0 = .ok (.iload_n 1, 1) := by decide +kernel
theorem dX6_hasTool_1 : decode cX6_hasTool 1 = .ok (.ifCond .lt 21, 3) := by decide +kernel
theorem dX6_hasTool_4 : decode cX6_hasTool 4 = .ok (.iload_n 1, 1) := by decide +kernel
theorem dX6_hasTool_5 : decode cX6_hasTool 5 = .ok (.aload_n 0, 1) := by decide +kernel
theorem dX6_hasTool_6 : decode cX6_hasTool 6 = .ok (.getfield 45, 3) := by decide +kernel
theorem dX6_hasTool_9 : decode cX6_hasTool 9 = .ok (.if_icmp .ge 13, 3) := by decide +kernel
theorem dX6_hasTool_12 : decode cX6_hasTool 12 = .ok (.iload_n 1, 1) := by decide +kernel
theorem dX6_hasTool_13 : decode cX6_hasTool 13 = .ok (.bipush 20, 2) := by decide +kernel
theorem dX6_hasTool_15 : decode cX6_hasTool 15 = .ok (.if_icmp .ge 7, 3) := by decide +kernel
theorem dX6_hasTool_18 : decode cX6_hasTool 18 = .ok (.iconst 1, 1) := by decide +kernel
theorem dX6_hasTool_19 : decode cX6_hasTool 19 = .ok (.goto 4, 3) := by decide +kernel
theorem dX6_hasTool_22 : decode cX6_hasTool 22 = .ok (.iconst 0, 1) := by decide +kernel
theorem dX6_hasTool_23 : decode cX6_hasTool 23 = .ok (.ireturn, 1) := by decide +kernel
theorem dX6_changeSetting_0 : decode cX6_changeSetting 0 = .ok (.iload_n 1, 1) := by decide +kernel
theorem dX6_changeSetting_1 : decode cX6_changeSetting 1 = .ok (.ifCond .lt 27, 3) := by decide +kernel
theorem dX6_changeSetting_4 : decode cX6_changeSetting 4 = .ok (.iload_n 1, 1) := by decide +kernel
theorem dX6_changeSetting_5 : decode cX6_changeSetting 5 = .ok (.bipush 7, 2) := by decide +kernel
theorem dX6_changeSetting_7 : decode cX6_changeSetting 7 = .ok (.if_icmp .ge 21, 3) := by decide +kernel
theorem dX6_changeSetting_10 : decode cX6_changeSetting 10 = .ok (.iload_n 2, 1) := by decide +kernel
theorem dX6_changeSetting_11 : decode cX6_changeSetting 11 = .ok (.getstatic 52, 3) := by decide +kernel
theorem dX6_changeSetting_14 : decode cX6_changeSetting 14 = .ok (.iload_n 1, 1) := by decide +kernel
theorem dX6_changeSetting_15 : decode cX6_changeSetting 15 = .ok (.iaload, 1) := by decide +kernel
theorem dX6_changeSetting_16 : decode cX6_changeSetting 16 = .ok (.if_icmp .lt 12, 3) := by decide +kernel
theorem dX6_changeSetting_19 : decode cX6_changeSetting 19 = .ok (.iload_n 2, 1) := by decide +kernel
theorem dX6_changeSetting_20 : decode cX6_changeSetting 20 = .ok (.getstatic 55, 3) := by decide +kernel
theorem dX6_changeSetting_23 : decode cX6_changeSetting 23 = .ok (.iload_n 1, 1) := by decide +kernel
theorem dX6_changeSetting_24 : decode cX6_changeSetting 24 = .ok (.iaload, 1) := by decide +kernel
theorem dX6_changeSetting_25 : decode cX6_changeSetting 25 = .ok (.if_icmp .le 6, 3) := by decide +kernel
theorem dX6_changeSetting_28 : decode cX6_changeSetting 28 = .ok (.ldc 58, 2) := by decide +kernel
theorem dX6_changeSetting_30 : decode cX6_changeSetting 30 = .ok (.ireturn, 1) := by decide +kernel
theorem dX6_changeSetting_31 : decode cX6_changeSetting 31 = .ok (.aload_n 0, 1) := by decide +kernel
theorem dX6_changeSetting_32 : decode cX6_changeSetting 32 = .ok (.getfield 9, 3) := by decide +kernel
theorem dX6_changeSetting_35 : decode cX6_changeSetting 35 = .ok (.iload_n 1, 1) := by decide +kernel
theorem dX6_changeSetting_36 : decode cX6_changeSetting 36 = .ok (.iaload, 1) := by decide +kernel
theorem dX6_changeSetting_37 : decode cX6_changeSetting 37 = .ok (.istore_n 3, 1) := by decide +kernel
theorem dX6_changeSetting_38 : decode cX6_changeSetting 38 = .ok (.aload_n 0, 1) := by decide +kernel
theorem dX6_changeSetting_39 : decode cX6_changeSetting 39 = .ok (.getfield 9, 3) := by decide +kernel
theorem dX6_changeSetting_42 : decode cX6_changeSetting 42 = .ok (.iload_n 1, 1) := by decide +kernel
theorem dX6_changeSetting_43 : decode cX6_changeSetting 43 = .ok (.iload_n 2, 1) := by decide +kernel
theorem dX6_changeSetting_44 : decode cX6_changeSetting 44 = .ok (.iastore, 1) := by decide +kernel
theorem dX6_changeSetting_45 : decode cX6_changeSetting 45 = .ok (.iload_n 3, 1) := by decide +kernel
theorem dX6_changeSetting_46 : decode cX6_changeSetting 46 = .ok (.ireturn, 1) := by decide +kernel
theorem dX6_letLeave_0 : decode cX6_letLeave 0 = .ok (.aload_n 0, 1) := by decide +kernel
theorem dX6_letLeave_1 : decode cX6_letLeave 1 = .ok (.getfield 18, 3) := by decide +kernel
theorem dX6_letLeave_4 : decode cX6_letLeave 4 = .ok (.iload_n 1, 1) := by decide +kernel
theorem dX6_letLeave_5 : decode cX6_letLeave 5 = .ok (.invokevirtual 59, 3) := by decide +kernel
theorem dX6_letLeave_8 : decode cX6_letLeave 8 = .ok (.ifCond .ne 6, 3) := by decide +kernel
theorem dX6_letLeave_11 : decode cX6_letLeave 11 = .ok (.ldc 58, 2) := by decide +kernel
theorem dX6_letLeave_13 : decode cX6_letLeave 13 = .ok (.ireturn, 1) := by decide +kernel
theorem dX6_letLeave_14 : decode cX6_letLeave 14 = .ok (.aload_n 0, 1) := by decide +kernel
theorem dX6_letLeave_15 : decode cX6_letLeave 15 = .ok (.getfield 18, 3) := by decide +kernel
theorem dX6_letLeave_18 : decode cX6_letLeave 18 = .ok (.getfield 63, 3) := by decide +kernel
theorem dX6_letLeave_21 : decode cX6_letLeave 21 = .ok (.iload_n 1, 1) := by decide +kernel
theorem dX6_letLeave_22 : decode cX6_letLeave 22 = .ok (.aaload, 1) := by decide +kernel
theorem dX6_letLeave_23 : decode cX6_letLeave 23 = .ok (.astore_n 2, 1) := by decide +kernel
theorem dX6_letLeave_24 : decode cX6_letLeave 24 = .ok (.aload_n 2, 1) := by decide +kernel
theorem dX6_letLeave_25 : decode cX6_letLeave 25 = .ok (.invokevirtual 67, 3) := by decide +kernel
theorem dX6_letLeave_28 : decode cX6_letLeave 28 = .ok (.ifCond .ne 29, 3) := by decide +kernel
theorem dX6_letLeave_31 : decode cX6_letLeave 31 = .ok (.aload_n 2, 1) := by decide +kernel
theorem dX6_letLeave_32 : decode cX6_letLeave 32 = .ok (.invokevirtual 73, 3) := by decide +kernel
theorem dX6_letLeave_35 : decode cX6_letLeave 35 = .ok (.ifCond .gt 22, 3) := by decide +kernel
theorem dX6_letLeave_38 : decode cX6_letLeave 38 = .ok (.aload_n 0, 1) := by decide +kernel
theorem dX6_letLeave_39 : decode cX6_letLeave 39 = .ok (.iload_n 1, 1) := by decide +kernel
theorem dX6_letLeave_40 : decode cX6_letLeave 40 = .ok (.invokevirtual 77, 3) := by decide +kernel
theorem dX6_letLeave_43 : decode cX6_letLeave 43 = .ok (.ifCond .ne 14, 3) := by decide +kernel
theorem dX6_letLeave_46 : decode cX6_letLeave 46 = .ok (.aload_n 0, 1) := by decide +kernel
theorem dX6_letLeave_47 : decode cX6_letLeave 47 = .ok (.getfield 18, 3) := by decide +kernel
theorem dX6_letLeave_50 : decode cX6_letLeave 50 = .ok (.iload_n 1, 1) := by decide +kernel
theorem dX6_letLeave_51 : decode cX6_letLeave 51 = .ok (.invokevirtual 80, 3) := by decide +kernel
theorem dX6_letLeave_54 : decode cX6_letLeave 54 = .ok (.ifCond .ne 6, 3) := by decide +kernel
theorem dX6_letLeave_57 : decode cX6_letLeave 57 = .ok (.ldc 84, 2) := by decide +kernel
theorem dX6_letLeave_59 : decode cX6_letLeave 59 = .ok (.ireturn, 1) := by decide +kernel
theorem dX6_letLeave_60 : decode cX6_letLeave 60 = .ok (.aload_n 0, 1) := by decide +kernel
theorem dX6_letLeave_61 : decode cX6_letLeave 61 = .ok (.getfield 18, 3) := by decide +kernel
theorem dX6_letLeave_64 : decode cX6_letLeave 64 = .ok (.iload_n 1, 1) := by decide +kernel
theorem dX6_letLeave_65 : decode cX6_letLeave 65 = .ok (.invokevirtual 85, 3) := by decide +kernel
theorem dX6_letLeave_68 : decode cX6_letLeave 68 = .ok (.ireturn, 1) := by decide +kernel
theorem dX6_isBound_0 : decode cX6_isBound 0 = .ok (.iconst 0, 1) := by decide +kernel
theorem dX6_isBound_1 : decode cX6_isBound 1 = .ok (.istore_n 2, 1) := by decide +kernel
theorem dX6_isBound_2 : decode cX6_isBound 2 = .ok (.iload_n 2, 1) := by decide +kernel
theorem dX6_isBound_3 : decode cX6_isBound 3 = .ok (.aload_n 0, 1) := by decide +kernel
theorem dX6_isBound_4 : decode cX6_isBound 4 = .ok (.getfield 45, 3) := by decide +kernel
theorem dX6_isBound_7 : decode cX6_isBound 7 = .ok (.if_icmp .ge 71, 3) := by decide +kernel
theorem dX6_isBound_10 : decode cX6_isBound 10 = .ok (.aload_n 0, 1) := by decide +kernel
theorem dX6_isBound_11 : decode cX6_isBound 11 = .ok (.iload_n 2, 1) := by decide +kernel
theorem dX6_isBound_12 : decode cX6_isBound 12 = .ok (.invokevirtual 88, 3) := by decide +kernel
theorem dX6_isBound_15 : decode cX6_isBound 15 = .ok (.ifCond .eq 18, 3) := by decide +kernel
theorem dX6_isBound_18 : decode cX6_isBound 18 = .ok (.aload_n 0, 1) := by decide +kernel
theorem dX6_isBound_19 : decode cX6_isBound 19 = .ok (.getfield 24, 3) := by decide +kernel
theorem dX6_isBound_22 : decode cX6_isBound 22 = .ok (.iload_n 2, 1) := by decide +kernel
theorem dX6_isBound_23 : decode cX6_isBound 23 = .ok (.aaload, 1) := by decide +kernel
theorem dX6_isBound_24 : decode cX6_isBound 24 = .ok (.iload_n 1, 1) := by decide +kernel
theorem dX6_isBound_25 : decode cX6_isBound 25 = .ok (.invokevirtual 91, 3) := by decide +kernel
theorem dX6_isBound_28 : decode cX6_isBound 28 = .ok (.ifCond .eq 5, 3) := by decide +kernel
theorem dX6_isBound_31 : decode cX6_isBound 31 = .ok (.iconst 1, 1) := by decide +kernel
theorem dX6_isBound_32 : decode cX6_isBound 32 = .ok (.ireturn, 1) := by decide +kernel
theorem dX6_isBound_33 : decode cX6_isBound 33 = .ok (.aload_n 0, 1) := by decide +kernel
theorem dX6_isBound_34 : decode cX6_isBound 34 = .ok (.iload_n 2, 1) := by decide +kernel
theorem dX6_isBound_35 : decode cX6_isBound 35 = .ok (.invokevirtual 88, 3) := by decide +kernel
theorem dX6_isBound_38 : decode cX6_isBound 38 = .ok (.ifCond .eq 34, 3) := by decide +kernel
theorem dX6_isBound_41 : decode cX6_isBound 41 = .ok (.aload_n 0, 1) := by decide +kernel
theorem dX6_isBound_42 : decode cX6_isBound 42 = .ok (.getfield 24, 3) := by decide +kernel
theorem dX6_isBound_45 : decode cX6_isBound 45 = .ok (.iload_n 2, 1) := by decide +kernel
theorem dX6_isBound_46 : decode cX6_isBound 46 = .ok (.aaload, 1) := by decide +kernel
theorem dX6_isBound_47 : decode cX6_isBound 47 = .ok (.getfield 94, 3) := by decide +kernel
theorem dX6_isBound_50 : decode cX6_isBound 50 = .ok (.iconst 2, 1) := by decide +kernel
theorem dX6_isBound_51 : decode cX6_isBound 51 = .ok (.if_icmp .ne 21, 3) := by decide +kernel
theorem dX6_isBound_54 : decode cX6_isBound 54 = .ok (.aload_n 0, 1) := by decide +kernel
theorem dX6_isBound_55 : decode cX6_isBound 55 = .ok (.getfield 24, 3) := by decide +kernel
theorem dX6_isBound_58 : decode cX6_isBound 58 = .ok (.iload_n 2, 1) := by decide +kernel
theorem dX6_isBound_59 : decode cX6_isBound 59 = .ok (.aaload, 1) := by decide +kernel
theorem dX6_isBound_60 : decode cX6_isBound 60 = .ok (.getfield 97, 3) := by decide +kernel
theorem dX6_isBound_63 : decode cX6_isBound 63 = .ok (.iload_n 1, 1) := by decide +kernel
theorem dX6_isBound_64 : decode cX6_isBound 64 = .ok (.invokevirtual 101, 3) := by decide +kernel
theorem dX6_isBound_67 : decode cX6_isBound 67 = .ok (.ifCond .eq 5, 3) := by decide +kernel
theorem dX6_isBound_70 : decode cX6_isBound 70 = .ok (.iconst 1, 1) := by decide +kernel
theorem dX6_isBound_71 : decode cX6_isBound 71 = .ok (.ireturn, 1) := by decide +kernel
theorem dX6_isBound_72 : decode cX6_isBound 72 = .ok (.iinc 2 1, 3) := by decide +kernel
theorem dX6_isBound_75 : decode cX6_isBound 75 = .ok (.goto (-73), 3) := by decide +kernel
theorem dX6_isBound_78 : decode cX6_isBound 78 = .ok (.iconst 0, 1) := by decide +kernel
theorem dX6_isBound_79 : decode cX6_isBound 79 = .ok (.ireturn, 1) := by decide +kernel
theorem dX6_tellOfMember_0 : decode cX6_tellOfMember 0 = .ok (.aload_n 0, 1) := by decide +kernel
theorem dX6_tellOfMember_1 : decode cX6_tellOfMember 1 = .ok (.getfield 18, 3) := by decide +kernel
theorem dX6_tellOfMember_4 : decode cX6_tellOfMember 4 = .ok (.iload_n 1, 1) := by decide +kernel
theorem dX6_tellOfMember_5 : decode cX6_tellOfMember 5 = .ok (.invokevirtual 59, 3) := by decide +kernel
theorem dX6_tellOfMember_8 : decode cX6_tellOfMember 8 = .ok (.ifCond .eq 13, 3) := by decide +kernel
theorem dX6_tellOfMember_11 : decode cX6_tellOfMember 11 = .ok (.iload_n 2, 1) := by decide +kernel
theorem dX6_tellOfMember_12 : decode cX6_tellOfMember 12 = .ok (.ifCond .lt 9, 3) := by decide +kernel
theorem dX6_tellOfMember_15 : decode cX6_tellOfMember 15 = .ok (.iload_n 2, 1) := by decide +kernel
theorem dX6_tellOfMember_16 : decode cX6_tellOfMember 16 = .ok (.bipush 13, 2) := by decide +kernel
theorem dX6_tellOfMember_18 : decode cX6_tellOfMember 18 = .ok (.if_icmp .le 6, 3) := by decide +kernel
theorem dX6_tellOfMember_21 : decode cX6_tellOfMember 21 = .ok (.ldc 58, 2) := by decide +kernel
theorem dX6_tellOfMember_23 : decode cX6_tellOfMember 23 = .ok (.ireturn, 1) := by decide +kernel
theorem dX6_tellOfMember_24 : decode cX6_tellOfMember 24 = .ok (.iload_n 2, 1) := by decide +kernel
theorem dX6_tellOfMember_25 : decode cX6_tellOfMember 25 = .ok (.bipush 13, 2) := by decide +kernel
theorem dX6_tellOfMember_27 : decode cX6_tellOfMember 27 = .ok (.if_icmp .ne 12, 3) := by decide +kernel
theorem dX6_tellOfMember_30 : decode cX6_tellOfMember 30 = .ok (.aload_n 0, 1) := by decide +kernel
theorem dX6_tellOfMember_31 : decode cX6_tellOfMember 31 = .ok (.getfield 18, 3) := by decide +kernel
theorem dX6_tellOfMember_34 : decode cX6_tellOfMember 34 = .ok (.iload_n 1, 1) := by decide +kernel
theorem dX6_tellOfMember_35 : decode cX6_tellOfMember 35 = .ok (.invokevirtual 106, 3) := by decide +kernel
theorem dX6_tellOfMember_38 : decode cX6_tellOfMember 38 = .ok (.ireturn, 1) := by decide +kernel
theorem dX6_tellOfMember_39 : decode cX6_tellOfMember 39 = .ok (.iload_n 2, 1) := by decide +kernel
theorem dX6_tellOfMember_40 : decode cX6_tellOfMember 40 = .ok (.bipush 12, 2) := by decide +kernel
theorem dX6_tellOfMember_42 : decode cX6_tellOfMember 42 = .ok (.if_icmp .ne 10, 3) := by decide +kernel
theorem dX6_tellOfMember_45 : decode cX6_tellOfMember 45 = .ok (.aload_n 0, 1) := by decide +kernel
theorem dX6_tellOfMember_46 : decode cX6_tellOfMember 46 = .ok (.iload_n 1, 1) := by decide +kernel
theorem dX6_tellOfMember_47 : decode cX6_tellOfMember 47 = .ok (.iconst 0, 1) := by decide +kernel
theorem dX6_tellOfMember_48 : decode cX6_tellOfMember 48 = .ok (.invokevirtual 109, 3) := by decide +kernel
theorem dX6_tellOfMember_51 : decode cX6_tellOfMember 51 = .ok (.ireturn, 1) := by decide +kernel
theorem dX6_tellOfMember_52 : decode cX6_tellOfMember 52 = .ok (.iload_n 2, 1) := by decide +kernel
theorem dX6_tellOfMember_53 : decode cX6_tellOfMember 53 = .ok (.bipush 12, 2) := by decide +kernel
theorem dX6_tellOfMember_55 : decode cX6_tellOfMember 55 = .ok (.if_icmp .ge 20, 3) := by decide +kernel
theorem dX6_tellOfMember_58 : decode cX6_tellOfMember 58 = .ok (.aload_n 0, 1) := by decide +kernel
theorem dX6_tellOfMember_59 : decode cX6_tellOfMember 59 = .ok (.getfield 18, 3) := by decide +kernel
theorem dX6_tellOfMember_62 : decode cX6_tellOfMember 62 = .ok (.getfield 63, 3) := by decide +kernel
theorem dX6_tellOfMember_65 : decode cX6_tellOfMember 65 = .ok (.iload_n 1, 1) := by decide +kernel
theorem dX6_tellOfMember_66 : decode cX6_tellOfMember 66 = .ok (.aaload, 1) := by decide +kernel
theorem dX6_tellOfMember_67 : decode cX6_tellOfMember 67 = .ok (.getfield 113, 3) := by decide +kernel
theorem dX6_tellOfMember_70 : decode cX6_tellOfMember 70 = .ok (.iload_n 2, 1) := by decide +kernel
theorem dX6_tellOfMember_71 : decode cX6_tellOfMember 71 = .ok (.iaload, 1) := by decide +kernel
theorem dX6_tellOfMember_72 : decode cX6_tellOfMember 72 = .ok (.goto 5, 3) := by decide +kernel
theorem dX6_tellOfMember_75 : decode cX6_tellOfMember 75 = .ok (.ldc 58, 2) := by decide +kernel
theorem dX6_tellOfMember_77 : decode cX6_tellOfMember 77 = .ok (.ireturn, 1) := by decide +kernel
theorem dX6_toolsOfMember_0 : decode cX6_toolsOfMember 0 = .ok (.iconst 0, 1) := by decide +kernel
theorem dX6_toolsOfMember_1 : decode cX6_toolsOfMember 1 = .ok (.istore_n 3, 1) := by decide +kernel
theorem dX6_toolsOfMember_2 : decode cX6_toolsOfMember 2 = .ok (.iconst 0, 1) := by decide +kernel
theorem dX6_toolsOfMember_3 : decode cX6_toolsOfMember 3 = .ok (.istore 4, 2) := by decide +kernel
theorem dX6_toolsOfMember_5 : decode cX6_toolsOfMember 5 = .ok (.iload 4, 2) := by decide +kernel
theorem dX6_toolsOfMember_7 : decode cX6_toolsOfMember 7 = .ok (.aload_n 0, 1) := by decide +kernel
theorem dX6_toolsOfMember_8 : decode cX6_toolsOfMember 8 = .ok (.getfield 45, 3) := by decide +kernel
theorem dX6_toolsOfMember_11 : decode cX6_toolsOfMember 11 = .ok (.if_icmp .ge 53, 3) := by decide +kernel
theorem dX6_toolsOfMember_14 : decode cX6_toolsOfMember 14 = .ok (.aload_n 0, 1) := by decide +kernel
theorem dX6_toolsOfMember_15 : decode cX6_toolsOfMember 15 = .ok (.iload 4, 2) := by decide +kernel
theorem dX6_toolsOfMember_17 : decode cX6_toolsOfMember 17 = .ok (.invokevirtual 88, 3) := by decide +kernel
theorem dX6_toolsOfMember_20 : decode cX6_toolsOfMember 20 = .ok (.ifCond .eq 38, 3) := by decide +kernel
theorem dX6_toolsOfMember_23 : decode cX6_toolsOfMember 23 = .ok (.aload_n 0, 1) := by decide +kernel
theorem dX6_toolsOfMember_24 : decode cX6_toolsOfMember 24 = .ok (.getfield 24, 3) := by decide +kernel
theorem dX6_toolsOfMember_27 : decode cX6_toolsOfMember 27 = .ok (.iload 4, 2) := by decide +kernel
theorem dX6_toolsOfMember_29 : decode cX6_toolsOfMember 29 = .ok (.aaload, 1) := by decide +kernel
theorem dX6_toolsOfMember_30 : decode cX6_toolsOfMember 30 = .ok (.iload_n 1, 1) := by decide +kernel
theorem dX6_toolsOfMember_31 : decode cX6_toolsOfMember 31 = .ok (.invokevirtual 91, 3) := by decide +kernel
theorem dX6_toolsOfMember_34 : decode cX6_toolsOfMember 34 = .ok (.ifCond .eq 24, 3) := by decide +kernel
theorem dX6_toolsOfMember_37 : decode cX6_toolsOfMember 37 = .ok (.iload_n 2, 1) := by decide +kernel
theorem dX6_toolsOfMember_38 : decode cX6_toolsOfMember 38 = .ok (.ifCond .ne 17, 3) := by decide +kernel
theorem dX6_toolsOfMember_41 : decode cX6_toolsOfMember 41 = .ok (.aload_n 0, 1) := by decide +kernel
theorem dX6_toolsOfMember_42 : decode cX6_toolsOfMember 42 = .ok (.getfield 24, 3) := by decide +kernel
theorem dX6_toolsOfMember_45 : decode cX6_toolsOfMember 45 = .ok (.iload 4, 2) := by decide +kernel
theorem dX6_toolsOfMember_47 : decode cX6_toolsOfMember 47 = .ok (.aaload, 1) := by decide +kernel
theorem dX6_toolsOfMember_48 : decode cX6_toolsOfMember 48 = .ok (.getfield 94, 3) := by decide +kernel
theorem dX6_toolsOfMember_51 : decode cX6_toolsOfMember 51 = .ok (.iconst 1, 1) := by decide +kernel
theorem dX6_toolsOfMember_52 : decode cX6_toolsOfMember 52 = .ok (.if_icmp .ne 6, 3) := by decide +kernel
theorem dX6_toolsOfMember_55 : decode cX6_toolsOfMember 55 = .ok (.iinc 3 1, 3) := by decide +kernel
theorem dX6_toolsOfMember_58 : decode cX6_toolsOfMember 58 = .ok (.iinc 4 1, 3) := by decide +kernel
theorem dX6_toolsOfMember_61 : decode cX6_toolsOfMember 61 = .ok (.goto (-56), 3) := by decide +kernel
theorem dX6_toolsOfMember_64 : decode cX6_toolsOfMember 64 = .ok (.iload_n 3, 1) := by decide +kernel
theorem dX6_toolsOfMember_65 : decode cX6_toolsOfMember 65 = .ok (.ireturn, 1) := by decide +kernel
theorem dX6_addTool_0 : decode cX6_addTool 0 = .ok (.iload_n 1, 1) := by decide +kernel
theorem dX6_addTool_1 : decode cX6_addTool 1 = .ok (.ifCond .eq 8, 3) := by decide +kernel
theorem dX6_addTool_4 : decode cX6_addTool 4 = .ok (.iload_n 1, 1) := by decide +kernel
theorem dX6_addTool_5 : decode cX6_addTool 5 = .ok (.iconst 1, 1) := by decide +kernel
theorem dX6_addTool_6 : decode cX6_addTool 6 = .ok (.if_icmp .ne 25, 3) := by decide +kernel
theorem dX6_addTool_9 : decode cX6_addTool 9 = .ok (.iload_n 2, 1) := by decide +kernel
theorem dX6_addTool_10 : decode cX6_addTool 10 = .ok (.iconst 1, 1) := by decide +kernel
theorem dX6_addTool_11 : decode cX6_addTool 11 = .ok (.if_icmp .lt 20, 3) := by decide +kernel
theorem dX6_addTool_14 : decode cX6_addTool 14 = .ok (.iload_n 2, 1) := by decide +kernel
theorem dX6_addTool_15 : decode cX6_addTool 15 = .ok (.sipush 400, 3) := by decide +kernel
theorem dX6_addTool_18 : decode cX6_addTool 18 = .ok (.if_icmp .gt 13, 3) := by decide +kernel
theorem dX6_addTool_21 : decode cX6_addTool 21 = .ok (.iload_n 3, 1) := by decide +kernel
theorem dX6_addTool_22 : decode cX6_addTool 22 = .ok (.ifCond .lt 9, 3) := by decide +kernel
theorem dX6_addTool_25 : decode cX6_addTool 25 = .ok (.iload_n 3, 1) := by decide +kernel
theorem dX6_addTool_26 : decode cX6_addTool 26 = .ok (.bipush 50, 2) := by decide +kernel
theorem dX6_addTool_28 : decode cX6_addTool 28 = .ok (.if_icmp .le 6, 3) := by decide +kernel
theorem dX6_addTool_31 : decode cX6_addTool 31 = .ok (.ldc 58, 2) := by decide +kernel
theorem dX6_addTool_33 : decode cX6_addTool 33 = .ok (.ireturn, 1) := by decide +kernel
theorem dX6_addTool_34 : decode cX6_addTool 34 = .ok (.aload_n 0, 1) := by decide +kernel
theorem dX6_addTool_35 : decode cX6_addTool 35 = .ok (.getfield 45, 3) := by decide +kernel
theorem dX6_addTool_38 : decode cX6_addTool 38 = .ok (.ifCond .lt 12, 3) := by decide +kernel
theorem dX6_addTool_41 : decode cX6_addTool 41 = .ok (.aload_n 0, 1) := by decide +kernel
theorem dX6_addTool_42 : decode cX6_addTool 42 = .ok (.getfield 45, 3) := by decide +kernel
theorem dX6_addTool_45 : decode cX6_addTool 45 = .ok (.bipush 20, 2) := by decide +kernel
theorem dX6_addTool_47 : decode cX6_addTool 47 = .ok (.if_icmp .lt 6, 3) := by decide +kernel
theorem dX6_addTool_50 : decode cX6_addTool 50 = .ok (.ldc 116, 2) := by decide +kernel
theorem dX6_addTool_52 : decode cX6_addTool 52 = .ok (.ireturn, 1) := by decide +kernel
theorem dX6_addTool_53 : decode cX6_addTool 53 = .ok (.aload_n 0, 1) := by decide +kernel
theorem dX6_addTool_54 : decode cX6_addTool 54 = .ok (.getfield 45, 3) := by decide +kernel
theorem dX6_addTool_57 : decode cX6_addTool 57 = .ok (.istore 4, 2) := by decide +kernel
theorem dX6_addTool_59 : decode cX6_addTool 59 = .ok (.aload_n 0, 1) := by decide +kernel
theorem dX6_addTool_60 : decode cX6_addTool 60 = .ok (.getfield 24, 3) := by decide +kernel
theorem dX6_addTool_63 : decode cX6_addTool 63 = .ok (.iload 4, 2) := by decide +kernel
theorem dX6_addTool_65 : decode cX6_addTool 65 = .ok (.aaload, 1) := by decide +kernel
theorem dX6_addTool_66 : decode cX6_addTool 66 = .ok (.iload_n 1, 1) := by decide +kernel
theorem dX6_addTool_67 : decode cX6_addTool 67 = .ok (.iload_n 2, 1) := by decide +kernel
theorem dX6_addTool_68 : decode cX6_addTool 68 = .ok (.iload_n 3, 1) := by decide +kernel
theorem dX6_addTool_69 : decode cX6_addTool 69 = .ok (.invokevirtual 117, 3) := by decide +kernel
theorem dX6_addTool_72 : decode cX6_addTool 72 = .ok (.aload_n 0, 1) := by decide +kernel
theorem dX6_addTool_73 : decode cX6_addTool 73 = .ok (.dup, 1) := by decide +kernel
theorem dX6_addTool_74 : decode cX6_addTool 74 = .ok (.getfield 45, 3) := by decide +kernel
theorem dX6_addTool_77 : decode cX6_addTool 77 = .ok (.iconst 1, 1) := by decide +kernel
theorem dX6_addTool_78 : decode cX6_addTool 78 = .ok (.iadd, 1) := by decide +kernel
theorem dX6_addTool_79 : decode cX6_addTool 79 = .ok (.putfield 45, 3) := by decide +kernel
theorem dX6_addTool_82 : decode cX6_addTool 82 = .ok (.iload 4, 2) := by decide +kernel
theorem dX6_addTool_84 : decode cX6_addTool 84 = .ok (.ireturn, 1) := by decide +kernel
theorem dX6_isHook_0 : decode cX6_isHook 0 = .ok (.iload_n 1, 1) := by decide +kernel
theorem dX6_isHook_1 : decode cX6_isHook 1 = .ok (.ifCond .lt 21, 3) := by decide +kernel
theorem dX6_isHook_4 : decode cX6_isHook 4 = .ok (.iload_n 1, 1) := by decide +kernel
theorem dX6_isHook_5 : decode cX6_isHook 5 = .ok (.iconst 3, 1) := by decide +kernel
theorem dX6_isHook_6 : decode cX6_isHook 6 = .ok (.if_icmp .ge 16, 3) := by decide +kernel
theorem dX6_isHook_9 : decode cX6_isHook 9 = .ok (.iload_n 2, 1) := by decide +kernel
theorem dX6_isHook_10 : decode cX6_isHook 10 = .ok (.ifCond .lt 12, 3) := by decide +kernel
theorem dX6_isHook_13 : decode cX6_isHook 13 = .ok (.iload_n 2, 1) := by decide +kernel
theorem dX6_isHook_14 : decode cX6_isHook 14 = .ok (.iconst 4, 1) := by decide +kernel
theorem dX6_isHook_15 : decode cX6_isHook 15 = .ok (.if_icmp .ge 7, 3) := by decide +kernel
theorem dX6_isHook_18 : decode cX6_isHook 18 = .ok (.iconst 1, 1) := by decide +kernel
theorem dX6_isHook_19 : decode cX6_isHook 19 = .ok (.goto 4, 3) := by decide +kernel
theorem dX6_isHook_22 : decode cX6_isHook 22 = .ok (.iconst 0, 1) := by decide +kernel
theorem dX6_isHook_23 : decode cX6_isHook 23 = .ok (.ireturn, 1) := by decide +kernel
theorem dX6_hangTool_0 : decode cX6_hangTool 0 = .ok (.aload_n 0, 1) := by decide +kernel
theorem dX6_hangTool_1 : decode cX6_hangTool 1 = .ok (.iload_n 1, 1) := by decide +kernel
theorem dX6_hangTool_2 : decode cX6_hangTool 2 = .ok (.invokevirtual 88, 3) := by decide +kernel
theorem dX6_hangTool_5 : decode cX6_hangTool 5 = .ok (.ifCond .eq 12, 3) := by decide +kernel
theorem dX6_hangTool_8 : decode cX6_hangTool 8 = .ok (.aload_n 0, 1) := by decide +kernel
theorem dX6_hangTool_9 : decode cX6_hangTool 9 = .ok (.iload_n 2, 1) := by decide +kernel
theorem dX6_hangTool_10 : decode cX6_hangTool 10 = .ok (.iload_n 3, 1) := by decide +kernel
theorem dX6_hangTool_11 : decode cX6_hangTool 11 = .ok (.invokevirtual 121, 3) := by decide +kernel
theorem dX6_hangTool_14 : decode cX6_hangTool 14 = .ok (.ifCond .ne 6, 3) := by decide +kernel
theorem dX6_hangTool_17 : decode cX6_hangTool 17 = .ok (.ldc 58, 2) := by decide +kernel
theorem dX6_hangTool_19 : decode cX6_hangTool 19 = .ok (.ireturn, 1) := by decide +kernel
theorem dX6_hangTool_20 : decode cX6_hangTool 20 = .ok (.aload_n 0, 1) := by decide +kernel
theorem dX6_hangTool_21 : decode cX6_hangTool 21 = .ok (.getfield 24, 3) := by decide +kernel
theorem dX6_hangTool_24 : decode cX6_hangTool 24 = .ok (.iload_n 1, 1) := by decide +kernel
theorem dX6_hangTool_25 : decode cX6_hangTool 25 = .ok (.aaload, 1) := by decide +kernel
theorem dX6_hangTool_26 : decode cX6_hangTool 26 = .ok (.astore 4, 2) := by decide +kernel
theorem dX6_hangTool_28 : decode cX6_hangTool 28 = .ok (.iload_n 2, 1) := by decide +kernel
theorem dX6_hangTool_29 : decode cX6_hangTool 29 = .ok (.iconst 2, 1) := by decide +kernel
theorem dX6_hangTool_30 : decode cX6_hangTool 30 = .ok (.if_icmp .eq 12, 3) := by decide +kernel
theorem dX6_hangTool_33 : decode cX6_hangTool 33 = .ok (.iload_n 2, 1) := by decide +kernel
theorem dX6_hangTool_34 : decode cX6_hangTool 34 = .ok (.aload 4, 2) := by decide +kernel
theorem dX6_hangTool_36 : decode cX6_hangTool 36 = .ok (.getfield 125, 3) := by decide +kernel
theorem dX6_hangTool_39 : decode cX6_hangTool 39 = .ok (.if_icmp .ne 7, 3) := by decide +kernel
theorem dX6_hangTool_42 : decode cX6_hangTool 42 = .ok (.iconst 1, 1) := by decide +kernel
theorem dX6_hangTool_43 : decode cX6_hangTool 43 = .ok (.goto 4, 3) := by decide +kernel
theorem dX6_hangTool_46 : decode cX6_hangTool 46 = .ok (.iconst 0, 1) := by decide +kernel
theorem dX6_hangTool_47 : decode cX6_hangTool 47 = .ok (.istore 5, 2) := by decide +kernel
theorem dX6_hangTool_49 : decode cX6_hangTool 49 = .ok (.aload 4, 2) := by decide +kernel
theorem dX6_hangTool_51 : decode cX6_hangTool 51 = .ok (.getfield 94, 3) := by decide +kernel
theorem dX6_hangTool_54 : decode cX6_hangTool 54 = .ok (.ifCond .ne 26, 3) := by decide +kernel
theorem dX6_hangTool_57 : decode cX6_hangTool 57 = .ok (.aload 4, 2) := by decide +kernel
theorem dX6_hangTool_59 : decode cX6_hangTool 59 = .ok (.getfield 128, 3) := by decide +kernel
theorem dX6_hangTool_62 : decode cX6_hangTool 62 = .ok (.iconst (-1), 1) := by decide +kernel
theorem dX6_hangTool_63 : decode cX6_hangTool 63 = .ok (.if_icmp .ne 17, 3) := by decide +kernel
theorem dX6_hangTool_66 : decode cX6_hangTool 66 = .ok (.aload_n 0, 1) := by decide +kernel
theorem dX6_hangTool_67 : decode cX6_hangTool 67 = .ok (.iload_n 2, 1) := by decide +kernel
theorem dX6_hangTool_68 : decode cX6_hangTool 68 = .ok (.iload_n 3, 1) := by decide +kernel
theorem dX6_hangTool_69 : decode cX6_hangTool 69 = .ok (.invokevirtual 131, 3) := by decide +kernel
theorem dX6_hangTool_72 : decode cX6_hangTool 72 = .ok (.ifCond .ge 8, 3) := by decide +kernel
theorem dX6_hangTool_75 : decode cX6_hangTool 75 = .ok (.iload 5, 2) := by decide +kernel
theorem dX6_hangTool_77 : decode cX6_hangTool 77 = .ok (.ifCond .ne 6, 3) := by decide +kernel
theorem dX6_hangTool_80 : decode cX6_hangTool 80 = .ok (.ldc 84, 2) := by decide +kernel
theorem dX6_hangTool_82 : decode cX6_hangTool 82 = .ok (.ireturn, 1) := by decide +kernel
theorem dX6_hangTool_83 : decode cX6_hangTool 83 = .ok (.aload 4, 2) := by decide +kernel
theorem dX6_hangTool_85 : decode cX6_hangTool 85 = .ok (.iload_n 2, 1) := by decide +kernel
theorem dX6_hangTool_86 : decode cX6_hangTool 86 = .ok (.putfield 128, 3) := by decide +kernel
theorem dX6_hangTool_89 : decode cX6_hangTool 89 = .ok (.aload 4, 2) := by decide +kernel
theorem dX6_hangTool_91 : decode cX6_hangTool 91 = .ok (.iload_n 3, 1) := by decide +kernel
theorem dX6_hangTool_92 : decode cX6_hangTool 92 = .ok (.putfield 135, 3) := by decide +kernel
theorem dX6_hangTool_95 : decode cX6_hangTool 95 = .ok (.aload_n 0, 1) := by decide +kernel
theorem dX6_hangTool_96 : decode cX6_hangTool 96 = .ok (.iload_n 2, 1) := by decide +kernel
theorem dX6_hangTool_97 : decode cX6_hangTool 97 = .ok (.invokevirtual 138, 3) := by decide +kernel
theorem dX6_hangTool_100 : decode cX6_hangTool 100 = .ok (.ireturn, 1) := by decide +kernel
theorem dX6_countTaken_0 : decode cX6_countTaken 0 = .ok (.iconst 0, 1) := by decide +kernel
theorem dX6_countTaken_1 : decode cX6_countTaken 1 = .ok (.istore_n 2, 1) := by decide +kernel
theorem dX6_countTaken_2 : decode cX6_countTaken 2 = .ok (.iconst 0, 1) := by decide +kernel
theorem dX6_countTaken_3 : decode cX6_countTaken 3 = .ok (.istore_n 3, 1) := by decide +kernel
theorem dX6_countTaken_4 : decode cX6_countTaken 4 = .ok (.iload_n 3, 1) := by decide +kernel
theorem dX6_countTaken_5 : decode cX6_countTaken 5 = .ok (.aload_n 0, 1) := by decide +kernel
theorem dX6_countTaken_6 : decode cX6_countTaken 6 = .ok (.getfield 45, 3) := by decide +kernel
theorem dX6_countTaken_9 : decode cX6_countTaken 9 = .ok (.if_icmp .ge 33, 3) := by decide +kernel
theorem dX6_countTaken_12 : decode cX6_countTaken 12 = .ok (.aload_n 0, 1) := by decide +kernel
theorem dX6_countTaken_13 : decode cX6_countTaken 13 = .ok (.iload_n 3, 1) := by decide +kernel
theorem dX6_countTaken_14 : decode cX6_countTaken 14 = .ok (.invokevirtual 88, 3) := by decide +kernel
theorem dX6_countTaken_17 : decode cX6_countTaken 17 = .ok (.ifCond .eq 19, 3) := by decide +kernel
theorem dX6_countTaken_20 : decode cX6_countTaken 20 = .ok (.aload_n 0, 1) := by decide +kernel
theorem dX6_countTaken_21 : decode cX6_countTaken 21 = .ok (.getfield 24, 3) := by decide +kernel
theorem dX6_countTaken_24 : decode cX6_countTaken 24 = .ok (.iload_n 3, 1) := by decide +kernel
theorem dX6_countTaken_25 : decode cX6_countTaken 25 = .ok (.aaload, 1) := by decide +kernel
theorem dX6_countTaken_26 : decode cX6_countTaken 26 = .ok (.getfield 128, 3) := by decide +kernel
theorem dX6_countTaken_29 : decode cX6_countTaken 29 = .ok (.iload_n 1, 1) := by decide +kernel
theorem dX6_countTaken_30 : decode cX6_countTaken 30 = .ok (.if_icmp .ne 6, 3) := by decide +kernel
theorem dX6_countTaken_33 : decode cX6_countTaken 33 = .ok (.iinc 2 1, 3) := by decide +kernel
theorem dX6_countTaken_36 : decode cX6_countTaken 36 = .ok (.iinc 3 1, 3) := by decide +kernel
theorem dX6_countTaken_39 : decode cX6_countTaken 39 = .ok (.goto (-35), 3) := by decide +kernel
theorem dX6_countTaken_42 : decode cX6_countTaken 42 = .ok (.iload_n 2, 1) := by decide +kernel
theorem dX6_countTaken_43 : decode cX6_countTaken 43 = .ok (.ireturn, 1) := by decide +kernel
theorem dX6_toolOnHook_0 : decode cX6_toolOnHook 0 = .ok (.aload_n 0, 1) := by decide +kernel
theorem dX6_toolOnHook_1 : decode cX6_toolOnHook 1 = .ok (.iload_n 1, 1) := by decide +kernel
theorem dX6_toolOnHook_2 : decode cX6_toolOnHook 2 = .ok (.iload_n 2, 1) := by decide +kernel
theorem dX6_toolOnHook_3 : decode cX6_toolOnHook 3 = .ok (.invokevirtual 121, 3) := by decide +kernel
theorem dX6_toolOnHook_6 : decode cX6_toolOnHook 6 = .ok (.ifCond .ne 6, 3) := by decide +kernel
theorem dX6_toolOnHook_9 : decode cX6_toolOnHook 9 = .ok (.ldc 58, 2) := by decide +kernel
theorem dX6_toolOnHook_11 : decode cX6_toolOnHook 11 = .ok (.ireturn, 1) := by decide +kernel
theorem dX6_toolOnHook_12 : decode cX6_toolOnHook 12 = .ok (.iconst 0, 1) := by decide +kernel
theorem dX6_toolOnHook_13 : decode cX6_toolOnHook 13 = .ok (.istore_n 3, 1) := by decide +kernel
theorem dX6_toolOnHook_14 : decode cX6_toolOnHook 14 = .ok (.iload_n 3, 1) := by decide +kernel
theorem dX6_toolOnHook_15 : decode cX6_toolOnHook 15 = .ok (.aload_n 0, 1) := by decide +kernel
theorem dX6_toolOnHook_16 : decode cX6_toolOnHook 16 = .ok (.getfield 45, 3) := by decide +kernel
theorem dX6_toolOnHook_19 : decode cX6_toolOnHook 19 = .ok (.if_icmp .ge 33, 3) := by decide +kernel
theorem dX6_toolOnHook_22 : decode cX6_toolOnHook 22 = .ok (.aload_n 0, 1) := by decide +kernel
theorem dX6_toolOnHook_23 : decode cX6_toolOnHook 23 = .ok (.iload_n 3, 1) := by decide +kernel
theorem dX6_toolOnHook_24 : decode cX6_toolOnHook 24 = .ok (.invokevirtual 88, 3) := by decide +kernel
theorem dX6_toolOnHook_27 : decode cX6_toolOnHook 27 = .ok (.ifCond .eq 19, 3) := by decide +kernel
theorem dX6_toolOnHook_30 : decode cX6_toolOnHook 30 = .ok (.aload_n 0, 1) := by decide +kernel
theorem dX6_toolOnHook_31 : decode cX6_toolOnHook 31 = .ok (.getfield 24, 3) := by decide +kernel
theorem dX6_toolOnHook_34 : decode cX6_toolOnHook 34 = .ok (.iload_n 3, 1) := by decide +kernel
theorem dX6_toolOnHook_35 : decode cX6_toolOnHook 35 = .ok (.aaload, 1) := by decide +kernel
theorem dX6_toolOnHook_36 : decode cX6_toolOnHook 36 = .ok (.iload_n 1, 1) := by decide +kernel
theorem dX6_toolOnHook_37 : decode cX6_toolOnHook 37 = .ok (.iload_n 2, 1) := by decide +kernel
theorem dX6_toolOnHook_38 : decode cX6_toolOnHook 38 = .ok (.invokevirtual 141, 3) := by decide +kernel
theorem dX6_toolOnHook_41 : decode cX6_toolOnHook 41 = .ok (.ifCond .eq 5, 3) := by decide +kernel
theorem dX6_toolOnHook_44 : decode cX6_toolOnHook 44 = .ok (.iload_n 3, 1) := by decide +kernel
theorem dX6_toolOnHook_45 : decode cX6_toolOnHook 45 = .ok (.ireturn, 1) := by decide +kernel
theorem dX6_toolOnHook_46 : decode cX6_toolOnHook 46 = .ok (.iinc 3 1, 3) := by decide +kernel
theorem dX6_toolOnHook_49 : decode cX6_toolOnHook 49 = .ok (.goto (-35), 3) := by decide +kernel
theorem dX6_toolOnHook_52 : decode cX6_toolOnHook 52 = .ok (.ldc 144, 2) := by decide +kernel
theorem dX6_toolOnHook_54 : decode cX6_toolOnHook 54 = .ok (.ireturn, 1) := by decide +kernel
theorem dX6_lendToMember_0 : decode cX6_lendToMember 0 = .ok (.aload_n 0, 1) := by decide +kernel
theorem dX6_lendToMember_1 : decode cX6_lendToMember 1 = .ok (.iload_n 1, 1) := by decide +kernel
theorem dX6_lendToMember_2 : decode cX6_lendToMember 2 = .ok (.invokevirtual 88, 3) := by decide +kernel
theorem dX6_lendToMember_5 : decode cX6_lendToMember 5 = .ok (.ifCond .eq 14, 3) := by decide +kernel
theorem dX6_lendToMember_8 : decode cX6_lendToMember 8 = .ok (.aload_n 0, 1) := by decide +kernel
theorem dX6_lendToMember_9 : decode cX6_lendToMember 9 = .ok (.getfield 18, 3) := by decide +kernel
theorem dX6_lendToMember_12 : decode cX6_lendToMember 12 = .ok (.iload_n 2, 1) := by decide +kernel
theorem dX6_lendToMember_13 : decode cX6_lendToMember 13 = .ok (.invokevirtual 59, 3) := by decide +kernel
theorem dX6_lendToMember_16 : decode cX6_lendToMember 16 = .ok (.ifCond .ne 6, 3) := by decide +kernel
theorem dX6_lendToMember_19 : decode cX6_lendToMember 19 = .ok (.ldc 58, 2) := by decide +kernel
theorem dX6_lendToMember_21 : decode cX6_lendToMember 21 = .ok (.ireturn, 1) := by decide +kernel
theorem dX6_lendToMember_22 : decode cX6_lendToMember 22 = .ok (.aload_n 0, 1) := by decide +kernel
theorem dX6_lendToMember_23 : decode cX6_lendToMember 23 = .ok (.getfield 18, 3) := by decide +kernel
theorem dX6_lendToMember_26 : decode cX6_lendToMember 26 = .ok (.getfield 63, 3) := by decide +kernel
theorem dX6_lendToMember_29 : decode cX6_lendToMember 29 = .ok (.iload_n 2, 1) := by decide +kernel
theorem dX6_lendToMember_30 : decode cX6_lendToMember 30 = .ok (.aaload, 1) := by decide +kernel
theorem dX6_lendToMember_31 : decode cX6_lendToMember 31 = .ok (.astore_n 3, 1) := by decide +kernel
theorem dX6_lendToMember_32 : decode cX6_lendToMember 32 = .ok (.aload_n 0, 1) := by decide +kernel
theorem dX6_lendToMember_33 : decode cX6_lendToMember 33 = .ok (.getfield 24, 3) := by decide +kernel
theorem dX6_lendToMember_36 : decode cX6_lendToMember 36 = .ok (.iload_n 1, 1) := by decide +kernel
theorem dX6_lendToMember_37 : decode cX6_lendToMember 37 = .ok (.aaload, 1) := by decide +kernel
theorem dX6_lendToMember_38 : decode cX6_lendToMember 38 = .ok (.getfield 94, 3) := by decide +kernel
theorem dX6_lendToMember_41 : decode cX6_lendToMember 41 = .ok (.ifCond .ne 27, 3) := by decide +kernel
theorem dX6_lendToMember_44 : decode cX6_lendToMember 44 = .ok (.aload_n 3, 1) := by decide +kernel
theorem dX6_lendToMember_45 : decode cX6_lendToMember 45 = .ok (.invokevirtual 145, 3) := by decide +kernel
theorem dX6_lendToMember_48 : decode cX6_lendToMember 48 = .ok (.ifCond .eq 20, 3) := by decide +kernel
theorem dX6_lendToMember_51 : decode cX6_lendToMember 51 = .ok (.aload_n 3, 1) := by decide +kernel
theorem dX6_lendToMember_52 : decode cX6_lendToMember 52 = .ok (.invokevirtual 73, 3) := by decide +kernel
theorem dX6_lendToMember_55 : decode cX6_lendToMember 55 = .ok (.ifCond .gt 13, 3) := by decide +kernel
theorem dX6_lendToMember_58 : decode cX6_lendToMember 58 = .ok (.aload_n 0, 1) := by decide +kernel
theorem dX6_lendToMember_59 : decode cX6_lendToMember 59 = .ok (.iload_n 2, 1) := by decide +kernel
theorem dX6_lendToMember_60 : decode cX6_lendToMember 60 = .ok (.iconst 1, 1) := by decide +kernel
theorem dX6_lendToMember_61 : decode cX6_lendToMember 61 = .ok (.invokevirtual 109, 3) := by decide +kernel
theorem dX6_lendToMember_64 : decode cX6_lendToMember 64 = .ok (.iconst 3, 1) := by decide +kernel
theorem dX6_lendToMember_65 : decode cX6_lendToMember 65 = .ok (.if_icmp .lt 6, 3) := by decide +kernel
theorem dX6_lendToMember_68 : decode cX6_lendToMember 68 = .ok (.ldc 84, 2) := by decide +kernel
theorem dX6_lendToMember_70 : decode cX6_lendToMember 70 = .ok (.ireturn, 1) := by decide +kernel
theorem dX6_lendToMember_71 : decode cX6_lendToMember 71 = .ok (.aload_n 0, 1) := by decide +kernel
theorem dX6_lendToMember_72 : decode cX6_lendToMember 72 = .ok (.getfield 24, 3) := by decide +kernel
theorem dX6_lendToMember_75 : decode cX6_lendToMember 75 = .ok (.iload_n 1, 1) := by decide +kernel
theorem dX6_lendToMember_76 : decode cX6_lendToMember 76 = .ok (.aaload, 1) := by decide +kernel
theorem dX6_lendToMember_77 : decode cX6_lendToMember 77 = .ok (.iconst 1, 1) := by decide +kernel
theorem dX6_lendToMember_78 : decode cX6_lendToMember 78 = .ok (.iload_n 2, 1) := by decide +kernel
theorem dX6_lendToMember_79 : decode cX6_lendToMember 79 = .ok (.aload_n 0, 1) := by decide +kernel
theorem dX6_lendToMember_80 : decode cX6_lendToMember 80 = .ok (.getfield 49, 3) := by decide +kernel
theorem dX6_lendToMember_83 : decode cX6_lendToMember 83 = .ok (.aload_n 0, 1) := by decide +kernel
theorem dX6_lendToMember_84 : decode cX6_lendToMember 84 = .ok (.getfield 9, 3) := by decide +kernel
theorem dX6_lendToMember_87 : decode cX6_lendToMember 87 = .ok (.iconst 1, 1) := by decide +kernel
theorem dX6_lendToMember_88 : decode cX6_lendToMember 88 = .ok (.iaload, 1) := by decide +kernel
theorem dX6_lendToMember_89 : decode cX6_lendToMember 89 = .ok (.invokevirtual 148, 3) := by decide +kernel
theorem dX6_lendToMember_92 : decode cX6_lendToMember 92 = .ok (.aload_n 0, 1) := by decide +kernel
theorem dX6_lendToMember_93 : decode cX6_lendToMember 93 = .ok (.getfield 24, 3) := by decide +kernel
theorem dX6_lendToMember_96 : decode cX6_lendToMember 96 = .ok (.iload_n 1, 1) := by decide +kernel
theorem dX6_lendToMember_97 : decode cX6_lendToMember 97 = .ok (.aaload, 1) := by decide +kernel
theorem dX6_lendToMember_98 : decode cX6_lendToMember 98 = .ok (.getfield 152, 3) := by decide +kernel
theorem dX6_lendToMember_101 : decode cX6_lendToMember 101 = .ok (.ireturn, 1) := by decide +kernel
theorem dX6_takeBack_0 : decode cX6_takeBack 0 = .ok (.aload_n 0, 1) := by decide +kernel
theorem dX6_takeBack_1 : decode cX6_takeBack 1 = .ok (.iload_n 1, 1) := by decide +kernel
theorem dX6_takeBack_2 : decode cX6_takeBack 2 = .ok (.invokevirtual 88, 3) := by decide +kernel
theorem dX6_takeBack_5 : decode cX6_takeBack 5 = .ok (.ifCond .ne 6, 3) := by decide +kernel
theorem dX6_takeBack_8 : decode cX6_takeBack 8 = .ok (.ldc 58, 2) := by decide +kernel
theorem dX6_takeBack_10 : decode cX6_takeBack 10 = .ok (.ireturn, 1) := by decide +kernel
theorem dX6_takeBack_11 : decode cX6_takeBack 11 = .ok (.aload_n 0, 1) := by decide +kernel
theorem dX6_takeBack_12 : decode cX6_takeBack 12 = .ok (.getfield 24, 3) := by decide +kernel
theorem dX6_takeBack_15 : decode cX6_takeBack 15 = .ok (.iload_n 1, 1) := by decide +kernel
theorem dX6_takeBack_16 : decode cX6_takeBack 16 = .ok (.aaload, 1) := by decide +kernel
theorem dX6_takeBack_17 : decode cX6_takeBack 17 = .ok (.astore_n 2, 1) := by decide +kernel
theorem dX6_takeBack_18 : decode cX6_takeBack 18 = .ok (.aload_n 2, 1) := by decide +kernel
theorem dX6_takeBack_19 : decode cX6_takeBack 19 = .ok (.getfield 94, 3) := by decide +kernel
theorem dX6_takeBack_22 : decode cX6_takeBack 22 = .ok (.iconst 1, 1) := by decide +kernel
theorem dX6_takeBack_23 : decode cX6_takeBack 23 = .ok (.if_icmp .ne 17, 3) := by decide +kernel
theorem dX6_takeBack_26 : decode cX6_takeBack 26 = .ok (.aload_n 0, 1) := by decide +kernel
theorem dX6_takeBack_27 : decode cX6_takeBack 27 = .ok (.getfield 18, 3) := by decide +kernel
theorem dX6_takeBack_30 : decode cX6_takeBack 30 = .ok (.aload_n 2, 1) := by decide +kernel
theorem dX6_takeBack_31 : decode cX6_takeBack 31 = .ok (.getfield 155, 3) := by decide +kernel
theorem dX6_takeBack_34 : decode cX6_takeBack 34 = .ok (.invokevirtual 59, 3) := by decide +kernel
theorem dX6_takeBack_37 : decode cX6_takeBack 37 = .ok (.ifCond .ne 6, 3) := by decide +kernel
theorem dX6_takeBack_40 : decode cX6_takeBack 40 = .ok (.ldc 84, 2) := by decide +kernel
theorem dX6_takeBack_42 : decode cX6_takeBack 42 = .ok (.ireturn, 1) := by decide +kernel
theorem dX6_takeBack_43 : decode cX6_takeBack 43 = .ok (.iconst 0, 1) := by decide +kernel
theorem dX6_takeBack_44 : decode cX6_takeBack 44 = .ok (.aload_n 0, 1) := by decide +kernel
theorem dX6_takeBack_45 : decode cX6_takeBack 45 = .ok (.getfield 49, 3) := by decide +kernel
theorem dX6_takeBack_48 : decode cX6_takeBack 48 = .ok (.aload_n 2, 1) := by decide +kernel
theorem dX6_takeBack_49 : decode cX6_takeBack 49 = .ok (.getfield 152, 3) := by decide +kernel
theorem dX6_takeBack_52 : decode cX6_takeBack 52 = .ok (.isub, 1) := by decide +kernel
theorem dX6_takeBack_53 : decode cX6_takeBack 53 = .ok (.invokestatic 158, 3) := by decide +kernel
theorem dX6_takeBack_56 : decode cX6_takeBack 56 = .ok (.aload_n 0, 1) := by decide +kernel
theorem dX6_takeBack_57 : decode cX6_takeBack 57 = .ok (.getfield 9, 3) := by decide +kernel
theorem dX6_takeBack_60 : decode cX6_takeBack 60 = .ok (.iconst 2, 1) := by decide +kernel
theorem dX6_takeBack_61 : decode cX6_takeBack 61 = .ok (.iaload, 1) := by decide +kernel
theorem dX6_takeBack_62 : decode cX6_takeBack 62 = .ok (.imul, 1) := by decide +kernel
theorem dX6_takeBack_63 : decode cX6_takeBack 63 = .ok (.istore_n 3, 1) := by decide +kernel
theorem dX6_takeBack_64 : decode cX6_takeBack 64 = .ok (.aload_n 0, 1) := by decide +kernel
theorem dX6_takeBack_65 : decode cX6_takeBack 65 = .ok (.getfield 18, 3) := by decide +kernel
theorem dX6_takeBack_68 : decode cX6_takeBack 68 = .ok (.getfield 63, 3) := by decide +kernel
theorem dX6_takeBack_71 : decode cX6_takeBack 71 = .ok (.aload_n 2, 1) := by decide +kernel
theorem dX6_takeBack_72 : decode cX6_takeBack 72 = .ok (.getfield 155, 3) := by decide +kernel
theorem dX6_takeBack_75 : decode cX6_takeBack 75 = .ok (.aaload, 1) := by decide +kernel
theorem dX6_takeBack_76 : decode cX6_takeBack 76 = .ok (.iconst 1, 1) := by decide +kernel
theorem dX6_takeBack_77 : decode cX6_takeBack 77 = .ok (.iload_n 3, 1) := by decide +kernel
theorem dX6_takeBack_78 : decode cX6_takeBack 78 = .ok (.invokevirtual 163, 3) := by decide +kernel
theorem dX6_takeBack_81 : decode cX6_takeBack 81 = .ok (.aload_n 2, 1) := by decide +kernel
theorem dX6_takeBack_82 : decode cX6_takeBack 82 = .ok (.aload_n 0, 1) := by decide +kernel
theorem dX6_takeBack_83 : decode cX6_takeBack 83 = .ok (.getfield 49, 3) := by decide +kernel
theorem dX6_takeBack_86 : decode cX6_takeBack 86 = .ok (.invokevirtual 167, 3) := by decide +kernel
theorem dX6_takeBack_89 : decode cX6_takeBack 89 = .ok (.iload_n 3, 1) := by decide +kernel
theorem dX6_takeBack_90 : decode cX6_takeBack 90 = .ok (.ireturn, 1) := by decide +kernel
theorem dX6_tellOfTool_0 : decode cX6_tellOfTool 0 = .ok (.aload_n 0, 1) := by decide +kernel
theorem dX6_tellOfTool_1 : decode cX6_tellOfTool 1 = .ok (.iload_n 1, 1) := by decide +kernel
theorem dX6_tellOfTool_2 : decode cX6_tellOfTool 2 = .ok (.invokevirtual 88, 3) := by decide +kernel
theorem dX6_tellOfTool_5 : decode cX6_tellOfTool 5 = .ok (.ifCond .eq 16, 3) := by decide +kernel
theorem dX6_tellOfTool_8 : decode cX6_tellOfTool 8 = .ok (.aload_n 0, 1) := by decide +kernel
theorem dX6_tellOfTool_9 : decode cX6_tellOfTool 9 = .ok (.getfield 24, 3) := by decide +kernel
theorem dX6_tellOfTool_12 : decode cX6_tellOfTool 12 = .ok (.iload_n 1, 1) := by decide +kernel
theorem dX6_tellOfTool_13 : decode cX6_tellOfTool 13 = .ok (.aaload, 1) := by decide +kernel
theorem dX6_tellOfTool_14 : decode cX6_tellOfTool 14 = .ok (.iload_n 2, 1) := by decide +kernel
theorem dX6_tellOfTool_15 : decode cX6_tellOfTool 15 = .ok (.invokevirtual 171, 3) := by decide +kernel
theorem dX6_tellOfTool_18 : decode cX6_tellOfTool 18 = .ok (.goto 5, 3) := by decide +kernel
theorem dX6_tellOfTool_21 : decode cX6_tellOfTool 21 = .ok (.ldc 58, 2) := by decide +kernel
theorem dX6_tellOfTool_23 : decode cX6_tellOfTool 23 = .ok (.ireturn, 1) := by decide +kernel
theorem dX6_bitsOfTool_0 : decode cX6_bitsOfTool 0 = .ok (.aload_n 0, 1) := by decide +kernel
theorem dX6_bitsOfTool_1 : decode cX6_bitsOfTool 1 = .ok (.iload_n 1, 1) := by decide +kernel
theorem dX6_bitsOfTool_2 : decode cX6_bitsOfTool 2 = .ok (.invokevirtual 88, 3) := by decide +kernel
theorem dX6_bitsOfTool_5 : decode cX6_bitsOfTool 5 = .ok (.ifCond .eq 18, 3) := by decide +kernel
theorem dX6_bitsOfTool_8 : decode cX6_bitsOfTool 8 = .ok (.aload_n 0, 1) := by decide +kernel
theorem dX6_bitsOfTool_9 : decode cX6_bitsOfTool 9 = .ok (.getfield 24, 3) := by decide +kernel
theorem dX6_bitsOfTool_12 : decode cX6_bitsOfTool 12 = .ok (.iload_n 1, 1) := by decide +kernel
theorem dX6_bitsOfTool_13 : decode cX6_bitsOfTool 13 = .ok (.aaload, 1) := by decide +kernel
theorem dX6_bitsOfTool_14 : decode cX6_bitsOfTool 14 = .ok (.getfield 174, 3) := by decide +kernel
theorem dX6_bitsOfTool_17 : decode cX6_bitsOfTool 17 = .ok (.invokestatic 178, 3) := by decide +kernel
theorem dX6_bitsOfTool_20 : decode cX6_bitsOfTool 20 = .ok (.goto 5, 3) := by decide +kernel
theorem dX6_bitsOfTool_23 : decode cX6_bitsOfTool 23 = .ok (.ldc 58, 2) := by decide +kernel
theorem dX6_bitsOfTool_25 : decode cX6_bitsOfTool 25 = .ok (.ireturn, 1) := by decide +kernel
theorem dX6_foretellDullness_0 : decode cX6_foretellDullness 0 = .ok (.aload_n 0, 1) := by decide +kernel
theorem dX6_foretellDullness_1 : decode cX6_foretellDullness 1 = .ok (.iload_n 1, 1) := by decide +kernel
theorem dX6_foretellDullness_2 : decode cX6_foretellDullness 2 = .ok (.invokevirtual 88, 3) := by decide +kernel
theorem dX6_foretellDullness_5 : decode cX6_foretellDullness 5 = .ok (.ifCond .eq 15, 3) := by decide +kernel
theorem dX6_foretellDullness_8 : decode cX6_foretellDullness 8 = .ok (.iload_n 2, 1) := by decide +kernel
theorem dX6_foretellDullness_9 : decode cX6_foretellDullness 9 = .ok (.iconst 1, 1) := by decide +kernel
theorem dX6_foretellDullness_10 : decode cX6_foretellDullness 10 = .ok (.if_icmp .lt 10, 3) := by decide +kernel
theorem dX6_foretellDullness_13 : decode cX6_foretellDullness 13 = .ok (.iload_n 2, 1) := by decide +kernel
theorem dX6_foretellDullness_14 : decode cX6_foretellDullness 14 = .ok (.sipush 200, 3) := by decide +kernel
theorem dX6_foretellDullness_17 : decode cX6_foretellDullness 17 = .ok (.if_icmp .le 6, 3) := by decide +kernel
theorem dX6_foretellDullness_20 : decode cX6_foretellDullness 20 = .ok (.ldc 58, 2) := by decide +kernel
theorem dX6_foretellDullness_22 : decode cX6_foretellDullness 22 = .ok (.ireturn, 1) := by decide +kernel
theorem dX6_foretellDullness_23 : decode cX6_foretellDullness 23 = .ok (.aload_n 0, 1) := by decide +kernel
theorem dX6_foretellDullness_24 : decode cX6_foretellDullness 24 = .ok (.getfield 24, 3) := by decide +kernel
theorem dX6_foretellDullness_27 : decode cX6_foretellDullness 27 = .ok (.iload_n 1, 1) := by decide +kernel
theorem dX6_foretellDullness_28 : decode cX6_foretellDullness 28 = .ok (.aaload, 1) := by decide +kernel
theorem dX6_foretellDullness_29 : decode cX6_foretellDullness 29 = .ok (.getfield 94, 3) := by decide +kernel
theorem dX6_foretellDullness_32 : decode cX6_foretellDullness 32 = .ok (.iconst 4, 1) := by decide +kernel
theorem dX6_foretellDullness_33 : decode cX6_foretellDullness 33 = .ok (.if_icmp .ne 6, 3) := by decide +kernel
theorem dX6_foretellDullness_36 : decode cX6_foretellDullness 36 = .ok (.ldc 84, 2) := by decide +kernel
theorem dX6_foretellDullness_38 : decode cX6_foretellDullness 38 = .ok (.ireturn, 1) := by decide +kernel
theorem dX6_foretellDullness_39 : decode cX6_foretellDullness 39 = .ok (.aload_n 0, 1) := by decide +kernel
theorem dX6_foretellDullness_40 : decode cX6_foretellDullness 40 = .ok (.getfield 24, 3) := by decide +kernel
theorem dX6_foretellDullness_43 : decode cX6_foretellDullness 43 = .ok (.iload_n 1, 1) := by decide +kernel
theorem dX6_foretellDullness_44 : decode cX6_foretellDullness 44 = .ok (.aaload, 1) := by decide +kernel
theorem dX6_foretellDullness_45 : decode cX6_foretellDullness 45 = .ok (.iload_n 2, 1) := by decide +kernel
theorem dX6_foretellDullness_46 : decode cX6_foretellDullness 46 = .ok (.invokevirtual 182, 3) := by decide +kernel
theorem dX6_foretellDullness_49 : decode cX6_foretellDullness 49 = .ok (.invokestatic 186, 3) := by decide +kernel
theorem dX6_foretellDullness_52 : decode cX6_foretellDullness 52 = .ok (.ireturn, 1) := by decide +kernel
theorem dX6_meanSharpness_0 : decode cX6_meanSharpness 0 = .ok (.iload_n 1, 1) := by decide +kernel
theorem dX6_meanSharpness_1 : decode cX6_meanSharpness 1 = .ok (.ifCond .eq 11, 3) := by decide +kernel
theorem dX6_meanSharpness_4 : decode cX6_meanSharpness 4 = .ok (.iload_n 1, 1) := by decide +kernel
theorem dX6_meanSharpness_5 : decode cX6_meanSharpness 5 = .ok (.iconst 1, 1) := by decide +kernel
theorem dX6_meanSharpness_6 : decode cX6_meanSharpness 6 = .ok (.if_icmp .eq 6, 3) := by decide +kernel
theorem dX6_meanSharpness_9 : decode cX6_meanSharpness 9 = .ok (.ldc 58, 2) := by decide +kernel
theorem dX6_meanSharpness_11 : decode cX6_meanSharpness 11 = .ok (.ireturn, 1) := by decide +kernel
theorem dX6_meanSharpness_12 : decode cX6_meanSharpness 12 = .ok (.dconst 0, 1) := by decide +kernel
theorem dX6_meanSharpness_13 : decode cX6_meanSharpness 13 = .ok (.dstore_n 2, 1) := by decide +kernel
theorem dX6_meanSharpness_14 : decode cX6_meanSharpness 14 = .ok (.iconst 0, 1) := by decide +kernel
theorem dX6_meanSharpness_15 : decode cX6_meanSharpness 15 = .ok (.istore 4, 2) := by decide +kernel
theorem dX6_meanSharpness_17 : decode cX6_meanSharpness 17 = .ok (.iconst 0, 1) := by decide +kernel
theorem dX6_meanSharpness_18 : decode cX6_meanSharpness 18 = .ok (.istore 5, 2) := by decide +kernel
theorem dX6_meanSharpness_20 : decode cX6_meanSharpness 20 = .ok (.iload 5, 2) := by decide +kernel
theorem dX6_meanSharpness_22 : decode cX6_meanSharpness 22 = .ok (.aload_n 0, 1) := by decide +kernel
theorem dX6_meanSharpness_23 : decode cX6_meanSharpness 23 = .ok (.getfield 45, 3) := by decide +kernel
theorem dX6_meanSharpness_26 : decode cX6_meanSharpness 26 = .ok (.if_icmp .ge 62, 3) := by decide +kernel
theorem dX6_meanSharpness_29 : decode cX6_meanSharpness 29 = .ok (.aload_n 0, 1) := by decide +kernel
theorem dX6_meanSharpness_30 : decode cX6_meanSharpness 30 = .ok (.iload 5, 2) := by decide +kernel
theorem dX6_meanSharpness_32 : decode cX6_meanSharpness 32 = .ok (.invokevirtual 88, 3) := by decide +kernel
theorem dX6_meanSharpness_35 : decode cX6_meanSharpness 35 = .ok (.ifCond .eq 47, 3) := by decide +kernel
theorem dX6_meanSharpness_38 : decode cX6_meanSharpness 38 = .ok (.aload_n 0, 1) := by decide +kernel
theorem dX6_meanSharpness_39 : decode cX6_meanSharpness 39 = .ok (.getfield 24, 3) := by decide +kernel
theorem dX6_meanSharpness_42 : decode cX6_meanSharpness 42 = .ok (.iload 5, 2) := by decide +kernel
theorem dX6_meanSharpness_44 : decode cX6_meanSharpness 44 = .ok (.aaload, 1) := by decide +kernel
theorem dX6_meanSharpness_45 : decode cX6_meanSharpness 45 = .ok (.getfield 125, 3) := by decide +kernel
theorem dX6_meanSharpness_48 : decode cX6_meanSharpness 48 = .ok (.iload_n 1, 1) := by decide +kernel
theorem dX6_meanSharpness_49 : decode cX6_meanSharpness 49 = .ok (.if_icmp .ne 33, 3) := by decide +kernel
theorem dX6_meanSharpness_52 : decode cX6_meanSharpness 52 = .ok (.aload_n 0, 1) := by decide +kernel
theorem dX6_meanSharpness_53 : decode cX6_meanSharpness 53 = .ok (.getfield 24, 3) := by decide +kernel
theorem dX6_meanSharpness_56 : decode cX6_meanSharpness 56 = .ok (.iload 5, 2) := by decide +kernel
theorem dX6_meanSharpness_58 : decode cX6_meanSharpness 58 = .ok (.aaload, 1) := by decide +kernel
theorem dX6_meanSharpness_59 : decode cX6_meanSharpness 59 = .ok (.getfield 94, 3) := by decide +kernel
theorem dX6_meanSharpness_62 : decode cX6_meanSharpness 62 = .ok (.ifCond .ne 20, 3) := by decide +kernel
theorem dX6_meanSharpness_65 : decode cX6_meanSharpness 65 = .ok (.dload_n 2, 1) := by decide +kernel
theorem dX6_meanSharpness_66 : decode cX6_meanSharpness 66 = .ok (.aload_n 0, 1) := by decide +kernel
theorem dX6_meanSharpness_67 : decode cX6_meanSharpness 67 = .ok (.getfield 24, 3) := by decide +kernel
theorem dX6_meanSharpness_70 : decode cX6_meanSharpness 70 = .ok (.iload 5, 2) := by decide +kernel
theorem dX6_meanSharpness_72 : decode cX6_meanSharpness 72 = .ok (.aaload, 1) := by decide +kernel
theorem dX6_meanSharpness_73 : decode cX6_meanSharpness 73 = .ok (.getfield 174, 3) := by decide +kernel
theorem dX6_meanSharpness_76 : decode cX6_meanSharpness 76 = .ok (.f2d, 1) := by decide +kernel
theorem dX6_meanSharpness_77 : decode cX6_meanSharpness 77 = .ok (.dadd, 1) := by decide +kernel
theorem dX6_meanSharpness_78 : decode cX6_meanSharpness 78 = .ok (.dstore_n 2, 1) := by decide +kernel
theorem dX6_meanSharpness_79 : decode cX6_meanSharpness 79 = .ok (.iinc 4 1, 3) := by decide +kernel
theorem dX6_meanSharpness_82 : decode cX6_meanSharpness 82 = .ok (.iinc 5 1, 3) := by decide +kernel
theorem dX6_meanSharpness_85 : decode cX6_meanSharpness 85 = .ok (.goto (-65), 3) := by decide +kernel
theorem dX6_meanSharpness_88 : decode cX6_meanSharpness 88 = .ok (.iload 4, 2) := by decide +kernel
theorem dX6_meanSharpness_90 : decode cX6_meanSharpness 90 = .ok (.ifCond .ne 8, 3) := by decide +kernel
theorem dX6_meanSharpness_93 : decode cX6_meanSharpness 93 = .ok (.ldc 144, 2) := by decide +kernel
theorem dX6_meanSharpness_95 : decode cX6_meanSharpness 95 = .ok (.goto 13, 3) := by decide +kernel
theorem dX6_meanSharpness_98 : decode cX6_meanSharpness 98 = .ok (.dload_n 2, 1) := by decide +kernel
theorem dX6_meanSharpness_99 : decode cX6_meanSharpness 99 = .ok (.iload 4, 2) := by decide +kernel
theorem dX6_meanSharpness_101 : decode cX6_meanSharpness 101 = .ok (.i2d, 1) := by decide +kernel
theorem dX6_meanSharpness_102 : decode cX6_meanSharpness 102 = .ok (.ddiv, 1) := by decide +kernel
theorem dX6_meanSharpness_103 : decode cX6_meanSharpness 103 = .ok (.ldc2_w 189, 3) := by decide +kernel
theorem dX6_meanSharpness_106 : decode cX6_meanSharpness 106 = .ok (.dmul, 1) := by decide +kernel
theorem dX6_meanSharpness_107 : decode cX6_meanSharpness 107 = .ok (.d2i, 1) := by decide +kernel
theorem dX6_meanSharpness_108 : decode cX6_meanSharpness 108 = .ok (.ireturn, 1) := by decide +kernel
theorem dX6_cutterInOrder_0 : decode cX6_cutterInOrder 0 = .ok (.iload_n 1, 1) := by decide +kernel
theorem dX6_cutterInOrder_1 : decode cX6_cutterInOrder 1 = .ok (.ifCond .ge 6, 3) := by decide +kernel
theorem dX6_cutterInOrder_4 : decode cX6_cutterInOrder 4 = .ok (.ldc 58, 2) := by decide +kernel
theorem dX6_cutterInOrder_6 : decode cX6_cutterInOrder 6 = .ok (.ireturn, 1) := by decide +kernel
theorem dX6_cutterInOrder_7 : decode cX6_cutterInOrder 7 = .ok (.iconst 0, 1) := by decide +kernel
theorem dX6_cutterInOrder_8 : decode cX6_cutterInOrder 8 = .ok (.istore_n 2, 1) := by decide +kernel
theorem dX6_cutterInOrder_9 : decode cX6_cutterInOrder 9 = .ok (.iload_n 2, 1) := by decide +kernel
theorem dX6_cutterInOrder_10 : decode cX6_cutterInOrder 10 = .ok (.aload_n 0, 1) := by decide +kernel
theorem dX6_cutterInOrder_11 : decode cX6_cutterInOrder 11 = .ok (.getfield 45, 3) := by decide +kernel
theorem dX6_cutterInOrder_14 : decode cX6_cutterInOrder 14 = .ok (.if_icmp .ge 40, 3) := by decide +kernel
theorem dX6_cutterInOrder_17 : decode cX6_cutterInOrder 17 = .ok (.aload_n 0, 1) := by decide +kernel
theorem dX6_cutterInOrder_18 : decode cX6_cutterInOrder 18 = .ok (.iload_n 2, 1) := by decide +kernel
theorem dX6_cutterInOrder_19 : decode cX6_cutterInOrder 19 = .ok (.invokevirtual 88, 3) := by decide +kernel
theorem dX6_cutterInOrder_22 : decode cX6_cutterInOrder 22 = .ok (.ifCond .eq 26, 3) := by decide +kernel
theorem dX6_cutterInOrder_25 : decode cX6_cutterInOrder 25 = .ok (.aload_n 0, 1) := by decide +kernel
theorem dX6_cutterInOrder_26 : decode cX6_cutterInOrder 26 = .ok (.getfield 24, 3) := by decide +kernel
theorem dX6_cutterInOrder_29 : decode cX6_cutterInOrder 29 = .ok (.iload_n 2, 1) := by decide +kernel
theorem dX6_cutterInOrder_30 : decode cX6_cutterInOrder 30 = .ok (.aaload, 1) := by decide +kernel
theorem dX6_cutterInOrder_31 : decode cX6_cutterInOrder 31 = .ok (.invokevirtual 191, 3) := by decide +kernel
theorem dX6_cutterInOrder_34 : decode cX6_cutterInOrder 34 = .ok (.ifCond .eq 14, 3) := by decide +kernel
theorem dX6_cutterInOrder_37 : decode cX6_cutterInOrder 37 = .ok (.aload_n 0, 1) := by decide +kernel
theorem dX6_cutterInOrder_38 : decode cX6_cutterInOrder 38 = .ok (.iload_n 2, 1) := by decide +kernel
theorem dX6_cutterInOrder_39 : decode cX6_cutterInOrder 39 = .ok (.invokevirtual 194, 3) := by decide +kernel
theorem dX6_cutterInOrder_42 : decode cX6_cutterInOrder 42 = .ok (.iload_n 1, 1) := by decide +kernel
theorem dX6_cutterInOrder_43 : decode cX6_cutterInOrder 43 = .ok (.if_icmp .ne 5, 3) := by decide +kernel
theorem dX6_cutterInOrder_46 : decode cX6_cutterInOrder 46 = .ok (.iload_n 2, 1) := by decide +kernel
theorem dX6_cutterInOrder_47 : decode cX6_cutterInOrder 47 = .ok (.ireturn, 1) := by decide +kernel
theorem dX6_cutterInOrder_48 : decode cX6_cutterInOrder 48 = .ok (.iinc 2 1, 3) := by decide +kernel
theorem dX6_cutterInOrder_51 : decode cX6_cutterInOrder 51 = .ok (.goto (-42), 3) := by decide +kernel
theorem dX6_cutterInOrder_54 : decode cX6_cutterInOrder 54 = .ok (.ldc 144, 2) := by decide +kernel
theorem dX6_cutterInOrder_56 : decode cX6_cutterInOrder 56 = .ok (.ireturn, 1) := by decide +kernel
theorem dX6_cuttersAheadOf_0 : decode cX6_cuttersAheadOf 0 = .ok (.aload_n 0, 1) := by decide +kernel
theorem dX6_cuttersAheadOf_1 : decode cX6_cuttersAheadOf 1 = .ok (.iload_n 1, 1) := by decide +kernel
theorem dX6_cuttersAheadOf_2 : decode cX6_cuttersAheadOf 2 = .ok (.invokevirtual 88, 3) := by decide +kernel
theorem dX6_cuttersAheadOf_5 : decode cX6_cuttersAheadOf 5 = .ok (.ifCond .ne 5, 3) := by decide +kernel
theorem dX6_cuttersAheadOf_8 : decode cX6_cuttersAheadOf 8 = .ok (.iconst 0, 1) := by decide +kernel
theorem dX6_cuttersAheadOf_9 : decode cX6_cuttersAheadOf 9 = .ok (.ireturn, 1) := by decide +kernel
theorem dX6_cuttersAheadOf_10 : decode cX6_cuttersAheadOf 10 = .ok (.aload_n 0, 1) := by decide +kernel
theorem dX6_cuttersAheadOf_11 : decode cX6_cuttersAheadOf 11 = .ok (.getfield 24, 3) := by decide +kernel
theorem dX6_cuttersAheadOf_14 : decode cX6_cuttersAheadOf 14 = .ok (.iload_n 1, 1) := by decide +kernel
theorem dX6_cuttersAheadOf_15 : decode cX6_cuttersAheadOf 15 = .ok (.aaload, 1) := by decide +kernel
theorem dX6_cuttersAheadOf_16 : decode cX6_cuttersAheadOf 16 = .ok (.getfield 174, 3) := by decide +kernel
theorem dX6_cuttersAheadOf_19 : decode cX6_cuttersAheadOf 19 = .ok (.fstore_n 2, 1) := by decide +kernel
theorem dX6_cuttersAheadOf_20 : decode cX6_cuttersAheadOf 20 = .ok (.iconst 0, 1) := by decide +kernel
theorem dX6_cuttersAheadOf_21 : decode cX6_cuttersAheadOf 21 = .ok (.istore_n 3, 1) := by decide +kernel
theorem dX6_cuttersAheadOf_22 : decode cX6_cuttersAheadOf 22 = .ok (.iconst 0, 1) := by decide +kernel
theorem dX6_cuttersAheadOf_23 : decode cX6_cuttersAheadOf 23 = .ok (.istore 4, 2) := by decide +kernel
theorem dX6_cuttersAheadOf_25 : decode cX6_cuttersAheadOf 25 = .ok (.iload 4, 2) := by decide +kernel
theorem dX6_cuttersAheadOf_27 : decode cX6_cuttersAheadOf 27 = .ok (.aload_n 0, 1) := by decide +kernel
theorem dX6_cuttersAheadOf_28 : decode cX6_cuttersAheadOf 28 = .ok (.getfield 45, 3) := by decide +kernel
theorem dX6_cuttersAheadOf_31 : decode cX6_cuttersAheadOf 31 = .ok (.if_icmp .ge 66, 3) := by decide +kernel
theorem dX6_cuttersAheadOf_34 : decode cX6_cuttersAheadOf 34 = .ok (.aload_n 0, 1) := by decide +kernel
theorem dX6_cuttersAheadOf_35 : decode cX6_cuttersAheadOf 35 = .ok (.iload 4, 2) := by decide +kernel
theorem dX6_cuttersAheadOf_37 : decode cX6_cuttersAheadOf 37 = .ok (.invokevirtual 88, 3) := by decide +kernel
theorem dX6_cuttersAheadOf_40 : decode cX6_cuttersAheadOf 40 = .ok (.ifCond .eq 51, 3) := by decide +kernel
theorem dX6_cuttersAheadOf_43 : decode cX6_cuttersAheadOf 43 = .ok (.aload_n 0, 1) := by decide +kernel
theorem dX6_cuttersAheadOf_44 : decode cX6_cuttersAheadOf 44 = .ok (.getfield 24, 3) := by decide +kernel
theorem dX6_cuttersAheadOf_47 : decode cX6_cuttersAheadOf 47 = .ok (.iload 4, 2) := by decide +kernel
theorem dX6_cuttersAheadOf_49 : decode cX6_cuttersAheadOf 49 = .ok (.aaload, 1) := by decide +kernel
theorem dX6_cuttersAheadOf_50 : decode cX6_cuttersAheadOf 50 = .ok (.invokevirtual 191, 3) := by decide +kernel
theorem dX6_cuttersAheadOf_53 : decode cX6_cuttersAheadOf 53 = .ok (.ifCond .eq 38, 3) := by decide +kernel
theorem dX6_cuttersAheadOf_56 : decode cX6_cuttersAheadOf 56 = .ok (.aload_n 0, 1) := by decide +kernel
theorem dX6_cuttersAheadOf_57 : decode cX6_cuttersAheadOf 57 = .ok (.getfield 24, 3) := by decide +kernel
theorem dX6_cuttersAheadOf_60 : decode cX6_cuttersAheadOf 60 = .ok (.iload 4, 2) := by decide +kernel
theorem dX6_cuttersAheadOf_62 : decode cX6_cuttersAheadOf 62 = .ok (.aaload, 1) := by decide +kernel
theorem dX6_cuttersAheadOf_63 : decode cX6_cuttersAheadOf 63 = .ok (.getfield 174, 3) := by decide +kernel
theorem dX6_cuttersAheadOf_66 : decode cX6_cuttersAheadOf 66 = .ok (.fstore 5, 2) := by decide +kernel
theorem dX6_cuttersAheadOf_68 : decode cX6_cuttersAheadOf 68 = .ok (.fload 5, 2) := by decide +kernel
theorem dX6_cuttersAheadOf_70 : decode cX6_cuttersAheadOf 70 = .ok (.fload_n 2, 1) := by decide +kernel
theorem dX6_cuttersAheadOf_71 : decode cX6_cuttersAheadOf 71 = .ok (.fcmp .g, 1) := by decide +kernel
theorem dX6_cuttersAheadOf_72 : decode cX6_cuttersAheadOf 72 = .ok (.ifCond .lt 16, 3) := by decide +kernel
theorem dX6_cuttersAheadOf_75 : decode cX6_cuttersAheadOf 75 = .ok (.fload 5, 2) := by decide +kernel
theorem dX6_cuttersAheadOf_77 : decode cX6_cuttersAheadOf 77 = .ok (.fload_n 2, 1) := by decide +kernel
theorem dX6_cuttersAheadOf_78 : decode cX6_cuttersAheadOf 78 = .ok (.fcmp .l, 1) := by decide +kernel
theorem dX6_cuttersAheadOf_79 : decode cX6_cuttersAheadOf 79 = .ok (.ifCond .ne 12, 3) := by decide +kernel
theorem dX6_cuttersAheadOf_82 : decode cX6_cuttersAheadOf 82 = .ok (.iload 4, 2) := by decide +kernel
theorem dX6_cuttersAheadOf_84 : decode cX6_cuttersAheadOf 84 = .ok (.iload_n 1, 1) := by decide +kernel
theorem dX6_cuttersAheadOf_85 : decode cX6_cuttersAheadOf 85 = .ok (.if_icmp .ge 6, 3) := by decide +kernel
theorem dX6_cuttersAheadOf_88 : decode cX6_cuttersAheadOf 88 = .ok (.iinc 3 1, 3) := by decide +kernel
theorem dX6_cuttersAheadOf_91 : decode cX6_cuttersAheadOf 91 = .ok (.iinc 4 1, 3) := by decide +kernel
theorem dX6_cuttersAheadOf_94 : decode cX6_cuttersAheadOf 94 = .ok (.goto (-69), 3) := by decide +kernel
theorem dX6_cuttersAheadOf_97 : decode cX6_cuttersAheadOf 97 = .ok (.iload_n 3, 1) := by decide +kernel
theorem dX6_cuttersAheadOf_98 : decode cX6_cuttersAheadOf 98 = .ok (.ireturn, 1) := by decide +kernel
theorem dX6_sharpenDullest_0 : decode cX6_sharpenDullest 0 = .ok (.aload_n 0, 1) := by decide +kernel
theorem dX6_sharpenDullest_1 : decode cX6_sharpenDullest 1 = .ok (.getfield 18, 3) := by decide +kernel
theorem dX6_sharpenDullest_4 : decode cX6_sharpenDullest 4 = .ok (.invokevirtual 197, 3) := by decide +kernel
theorem dX6_sharpenDullest_7 : decode cX6_sharpenDullest 7 = .ok (.istore_n 1, 1) := by decide +kernel
theorem dX6_sharpenDullest_8 : decode cX6_sharpenDullest 8 = .ok (.aload_n 0, 1) := by decide +kernel
theorem dX6_sharpenDullest_9 : decode cX6_sharpenDullest 9 = .ok (.getfield 18, 3) := by decide +kernel
theorem dX6_sharpenDullest_12 : decode cX6_sharpenDullest 12 = .ok (.iload_n 1, 1) := by decide +kernel
theorem dX6_sharpenDullest_13 : decode cX6_sharpenDullest 13 = .ok (.invokevirtual 59, 3) := by decide +kernel
theorem dX6_sharpenDullest_16 : decode cX6_sharpenDullest 16 = .ok (.ifCond .ne 6, 3) := by decide +kernel
theorem dX6_sharpenDullest_19 : decode cX6_sharpenDullest 19 = .ok (.ldc 84, 2) := by decide +kernel
theorem dX6_sharpenDullest_21 : decode cX6_sharpenDullest 21 = .ok (.ireturn, 1) := by decide +kernel
theorem dX6_sharpenDullest_22 : decode cX6_sharpenDullest 22 = .ok (.aload_n 0, 1) := by decide +kernel
theorem dX6_sharpenDullest_23 : decode cX6_sharpenDullest 23 = .ok (.iconst 0, 1) := by decide +kernel
theorem dX6_sharpenDullest_24 : decode cX6_sharpenDullest 24 = .ok (.invokevirtual 200, 3) := by decide +kernel
theorem dX6_sharpenDullest_27 : decode cX6_sharpenDullest 27 = .ok (.istore_n 2, 1) := by decide +kernel
theorem dX6_sharpenDullest_28 : decode cX6_sharpenDullest 28 = .ok (.aload_n 0, 1) := by decide +kernel
theorem dX6_sharpenDullest_29 : decode cX6_sharpenDullest 29 = .ok (.iload_n 2, 1) := by decide +kernel
theorem dX6_sharpenDullest_30 : decode cX6_sharpenDullest 30 = .ok (.invokevirtual 88, 3) := by decide +kernel
theorem dX6_sharpenDullest_33 : decode cX6_sharpenDullest 33 = .ok (.ifCond .eq 24, 3) := by decide +kernel
theorem dX6_sharpenDullest_36 : decode cX6_sharpenDullest 36 = .ok (.aload_n 0, 1) := by decide +kernel
theorem dX6_sharpenDullest_37 : decode cX6_sharpenDullest 37 = .ok (.getfield 24, 3) := by decide +kernel
theorem dX6_sharpenDullest_40 : decode cX6_sharpenDullest 40 = .ok (.iload_n 2, 1) := by decide +kernel
theorem dX6_sharpenDullest_41 : decode cX6_sharpenDullest 41 = .ok (.aaload, 1) := by decide +kernel
theorem dX6_sharpenDullest_42 : decode cX6_sharpenDullest 42 = .ok (.getfield 174, 3) := by decide +kernel
theorem dX6_sharpenDullest_45 : decode cX6_sharpenDullest 45 = .ok (.invokestatic 186, 3) := by decide +kernel
theorem dX6_sharpenDullest_48 : decode cX6_sharpenDullest 48 = .ok (.aload_n 0, 1) := by decide +kernel
theorem dX6_sharpenDullest_49 : decode cX6_sharpenDullest 49 = .ok (.getfield 9, 3) := by decide +kernel
theorem dX6_sharpenDullest_52 : decode cX6_sharpenDullest 52 = .ok (.iconst 4, 1) := by decide +kernel
theorem dX6_sharpenDullest_53 : decode cX6_sharpenDullest 53 = .ok (.iaload, 1) := by decide +kernel
theorem dX6_sharpenDullest_54 : decode cX6_sharpenDullest 54 = .ok (.if_icmp .lt 6, 3) := by decide +kernel
theorem dX6_sharpenDullest_57 : decode cX6_sharpenDullest 57 = .ok (.ldc 144, 2) := by decide +kernel
theorem dX6_sharpenDullest_59 : decode cX6_sharpenDullest 59 = .ok (.ireturn, 1) := by decide +kernel
theorem dX6_sharpenDullest_60 : decode cX6_sharpenDullest 60 = .ok (.aload_n 0, 1) := by decide +kernel
theorem dX6_sharpenDullest_61 : decode cX6_sharpenDullest 61 = .ok (.getfield 24, 3) := by decide +kernel
theorem dX6_sharpenDullest_64 : decode cX6_sharpenDullest 64 = .ok (.iload_n 2, 1) := by decide +kernel
theorem dX6_sharpenDullest_65 : decode cX6_sharpenDullest 65 = .ok (.aaload, 1) := by decide +kernel
theorem dX6_sharpenDullest_66 : decode cX6_sharpenDullest 66 = .ok (.aload_n 0, 1) := by decide +kernel
theorem dX6_sharpenDullest_67 : decode cX6_sharpenDullest 67 = .ok (.getfield 9, 3) := by decide +kernel
theorem dX6_sharpenDullest_70 : decode cX6_sharpenDullest 70 = .ok (.iconst 5, 1) := by decide +kernel
theorem dX6_sharpenDullest_71 : decode cX6_sharpenDullest 71 = .ok (.iaload, 1) := by decide +kernel
theorem dX6_sharpenDullest_72 : decode cX6_sharpenDullest 72 = .ok (.invokevirtual 203, 3) := by decide +kernel
theorem dX6_sharpenDullest_75 : decode cX6_sharpenDullest 75 = .ok (.aload_n 0, 1) := by decide +kernel
theorem dX6_sharpenDullest_76 : decode cX6_sharpenDullest 76 = .ok (.getfield 18, 3) := by decide +kernel
theorem dX6_sharpenDullest_79 : decode cX6_sharpenDullest 79 = .ok (.getfield 63, 3) := by decide +kernel
theorem dX6_sharpenDullest_82 : decode cX6_sharpenDullest 82 = .ok (.iload_n 1, 1) := by decide +kernel
theorem dX6_sharpenDullest_83 : decode cX6_sharpenDullest 83 = .ok (.aaload, 1) := by decide +kernel
theorem dX6_sharpenDullest_84 : decode cX6_sharpenDullest 84 = .ok (.aload_n 0, 1) := by decide +kernel
theorem dX6_sharpenDullest_85 : decode cX6_sharpenDullest 85 = .ok (.getfield 9, 3) := by decide +kernel
theorem dX6_sharpenDullest_88 : decode cX6_sharpenDullest 88 = .ok (.iconst 3, 1) := by decide +kernel
theorem dX6_sharpenDullest_89 : decode cX6_sharpenDullest 89 = .ok (.iaload, 1) := by decide +kernel
theorem dX6_sharpenDullest_90 : decode cX6_sharpenDullest 90 = .ok (.invokevirtual 206, 3) := by decide +kernel
theorem dX6_sharpenDullest_93 : decode cX6_sharpenDullest 93 = .ok (.aload_n 0, 1) := by decide +kernel
theorem dX6_sharpenDullest_94 : decode cX6_sharpenDullest 94 = .ok (.getfield 18, 3) := by decide +kernel
theorem dX6_sharpenDullest_97 : decode cX6_sharpenDullest 97 = .ok (.iload_n 1, 1) := by decide +kernel
theorem dX6_sharpenDullest_98 : decode cX6_sharpenDullest 98 = .ok (.invokevirtual 209, 3) := by decide +kernel
theorem dX6_sharpenDullest_101 : decode cX6_sharpenDullest 101 = .ok (.iload_n 2, 1) := by decide +kernel
theorem dX6_sharpenDullest_102 : decode cX6_sharpenDullest 102 = .ok (.ireturn, 1) := by decide +kernel
theorem dX6_loseTool_0 : decode cX6_loseTool 0 = .ok (.aload_n 0, 1) := by decide +kernel
theorem dX6_loseTool_1 : decode cX6_loseTool 1 = .ok (.iload_n 1, 1) := by decide +kernel
theorem dX6_loseTool_2 : decode cX6_loseTool 2 = .ok (.invokevirtual 88, 3) := by decide +kernel
theorem dX6_loseTool_5 : decode cX6_loseTool 5 = .ok (.ifCond .ne 6, 3) := by decide +kernel
theorem dX6_loseTool_8 : decode cX6_loseTool 8 = .ok (.ldc 58, 2) := by decide +kernel
theorem dX6_loseTool_10 : decode cX6_loseTool 10 = .ok (.ireturn, 1) := by decide +kernel
theorem dX6_loseTool_11 : decode cX6_loseTool 11 = .ok (.aload_n 0, 1) := by decide +kernel
theorem dX6_loseTool_12 : decode cX6_loseTool 12 = .ok (.getfield 24, 3) := by decide +kernel
theorem dX6_loseTool_15 : decode cX6_loseTool 15 = .ok (.iload_n 1, 1) := by decide +kernel
theorem dX6_loseTool_16 : decode cX6_loseTool 16 = .ok (.aaload, 1) := by decide +kernel
theorem dX6_loseTool_17 : decode cX6_loseTool 17 = .ok (.astore_n 2, 1) := by decide +kernel
theorem dX6_loseTool_18 : decode cX6_loseTool 18 = .ok (.aload_n 2, 1) := by decide +kernel
theorem dX6_loseTool_19 : decode cX6_loseTool 19 = .ok (.getfield 94, 3) := by decide +kernel
theorem dX6_loseTool_22 : decode cX6_loseTool 22 = .ok (.iconst 1, 1) := by decide +kernel
theorem dX6_loseTool_23 : decode cX6_loseTool 23 = .ok (.if_icmp .ne 21, 3) := by decide +kernel
theorem dX6_loseTool_26 : decode cX6_loseTool 26 = .ok (.aload_n 0, 1) := by decide +kernel
theorem dX6_loseTool_27 : decode cX6_loseTool 27 = .ok (.getfield 18, 3) := by decide +kernel
theorem dX6_loseTool_30 : decode cX6_loseTool 30 = .ok (.aload_n 2, 1) := by decide +kernel
theorem dX6_loseTool_31 : decode cX6_loseTool 31 = .ok (.getfield 155, 3) := by decide +kernel
theorem dX6_loseTool_34 : decode cX6_loseTool 34 = .ok (.aload_n 2, 1) := by decide +kernel
theorem dX6_loseTool_35 : decode cX6_loseTool 35 = .ok (.getfield 97, 3) := by decide +kernel
theorem dX6_loseTool_38 : decode cX6_loseTool 38 = .ok (.invokevirtual 212, 3) := by decide +kernel
theorem dX6_loseTool_41 : decode cX6_loseTool 41 = .ok (.ifCond .ne 6, 3) := by decide +kernel
theorem dX6_loseTool_44 : decode cX6_loseTool 44 = .ok (.ldc 84, 2) := by decide +kernel
theorem dX6_loseTool_46 : decode cX6_loseTool 46 = .ok (.ireturn, 1) := by decide +kernel
theorem dX6_loseTool_47 : decode cX6_loseTool 47 = .ok (.aload_n 2, 1) := by decide +kernel
theorem dX6_loseTool_48 : decode cX6_loseTool 48 = .ok (.iconst 2, 1) := by decide +kernel
theorem dX6_loseTool_49 : decode cX6_loseTool 49 = .ok (.putfield 94, 3) := by decide +kernel
theorem dX6_loseTool_52 : decode cX6_loseTool 52 = .ok (.aload_n 2, 1) := by decide +kernel
theorem dX6_loseTool_53 : decode cX6_loseTool 53 = .ok (.getfield 97, 3) := by decide +kernel
theorem dX6_loseTool_56 : decode cX6_loseTool 56 = .ok (.getfield 216, 3) := by decide +kernel
theorem dX6_loseTool_59 : decode cX6_loseTool 59 = .ok (.iconst 0, 1) := by decide +kernel
theorem dX6_loseTool_60 : decode cX6_loseTool 60 = .ok (.iaload, 1) := by decide +kernel
theorem dX6_loseTool_61 : decode cX6_loseTool 61 = .ok (.ireturn, 1) := by decide +kernel
theorem dX6_hearPanel_0 : decode cX6_hearPanel 0 = .ok (.aload_n 0, 1) := by decide +kernel
theorem dX6_hearPanel_1 : decode cX6_hearPanel 1 = .ok (.iload_n 1, 1) := by decide +kernel
theorem dX6_hearPanel_2 : decode cX6_hearPanel 2 = .ok (.invokevirtual 88, 3) := by decide +kernel
theorem dX6_hearPanel_5 : decode cX6_hearPanel 5 = .ok (.ifCond .eq 23, 3) := by decide +kernel
theorem dX6_hearPanel_8 : decode cX6_hearPanel 8 = .ok (.aload_n 0, 1) := by decide +kernel
theorem dX6_hearPanel_9 : decode cX6_hearPanel 9 = .ok (.getfield 18, 3) := by decide +kernel
theorem dX6_hearPanel_12 : decode cX6_hearPanel 12 = .ok (.iload_n 2, 1) := by decide +kernel
theorem dX6_hearPanel_13 : decode cX6_hearPanel 13 = .ok (.invokevirtual 59, 3) := by decide +kernel
theorem dX6_hearPanel_16 : decode cX6_hearPanel 16 = .ok (.ifCond .eq 12, 3) := by decide +kernel
theorem dX6_hearPanel_19 : decode cX6_hearPanel 19 = .ok (.iload_n 3, 1) := by decide +kernel
theorem dX6_hearPanel_20 : decode cX6_hearPanel 20 = .ok (.ifCond .lt 8, 3) := by decide +kernel
theorem dX6_hearPanel_23 : decode cX6_hearPanel 23 = .ok (.iload_n 3, 1) := by decide +kernel
theorem dX6_hearPanel_24 : decode cX6_hearPanel 24 = .ok (.iconst 2, 1) := by decide +kernel
theorem dX6_hearPanel_25 : decode cX6_hearPanel 25 = .ok (.if_icmp .le 6, 3) := by decide +kernel
theorem dX6_hearPanel_28 : decode cX6_hearPanel 28 = .ok (.ldc 58, 2) := by decide +kernel
theorem dX6_hearPanel_30 : decode cX6_hearPanel 30 = .ok (.ireturn, 1) := by decide +kernel
theorem dX6_hearPanel_31 : decode cX6_hearPanel 31 = .ok (.aload_n 0, 1) := by decide +kernel
theorem dX6_hearPanel_32 : decode cX6_hearPanel 32 = .ok (.getfield 24, 3) := by decide +kernel
theorem dX6_hearPanel_35 : decode cX6_hearPanel 35 = .ok (.iload_n 1, 1) := by decide +kernel
theorem dX6_hearPanel_36 : decode cX6_hearPanel 36 = .ok (.aaload, 1) := by decide +kernel
theorem dX6_hearPanel_37 : decode cX6_hearPanel 37 = .ok (.astore 4, 2) := by decide +kernel
theorem dX6_hearPanel_39 : decode cX6_hearPanel 39 = .ok (.aload 4, 2) := by decide +kernel
theorem dX6_hearPanel_41 : decode cX6_hearPanel 41 = .ok (.getfield 94, 3) := by decide +kernel
theorem dX6_hearPanel_44 : decode cX6_hearPanel 44 = .ok (.iconst 2, 1) := by decide +kernel
theorem dX6_hearPanel_45 : decode cX6_hearPanel 45 = .ok (.if_icmp .ne 16, 3) := by decide +kernel
theorem dX6_hearPanel_48 : decode cX6_hearPanel 48 = .ok (.aload 4, 2) := by decide +kernel
theorem dX6_hearPanel_50 : decode cX6_hearPanel 50 = .ok (.getfield 97, 3) := by decide +kernel
theorem dX6_hearPanel_53 : decode cX6_hearPanel 53 = .ok (.iload_n 2, 1) := by decide +kernel
theorem dX6_hearPanel_54 : decode cX6_hearPanel 54 = .ok (.iload_n 3, 1) := by decide +kernel
theorem dX6_hearPanel_55 : decode cX6_hearPanel 55 = .ok (.invokevirtual 219, 3) := by decide +kernel
theorem dX6_hearPanel_58 : decode cX6_hearPanel 58 = .ok (.ifCond .ne 6, 3) := by decide +kernel
theorem dX6_hearPanel_61 : decode cX6_hearPanel 61 = .ok (.ldc 84, 2) := by decide +kernel
theorem dX6_hearPanel_63 : decode cX6_hearPanel 63 = .ok (.ireturn, 1) := by decide +kernel
theorem dX6_hearPanel_64 : decode cX6_hearPanel 64 = .ok (.aload 4, 2) := by decide +kernel
theorem dX6_hearPanel_66 : decode cX6_hearPanel 66 = .ok (.getfield 97, 3) := by decide +kernel
theorem dX6_hearPanel_69 : decode cX6_hearPanel 69 = .ok (.invokevirtual 222, 3) := by decide +kernel
theorem dX6_hearPanel_72 : decode cX6_hearPanel 72 = .ok (.istore 5, 2) := by decide +kernel
theorem dX6_hearPanel_74 : decode cX6_hearPanel 74 = .ok (.iload 5, 2) := by decide +kernel
theorem dX6_hearPanel_76 : decode cX6_hearPanel 76 = .ok (.iconst 3, 1) := by decide +kernel
theorem dX6_hearPanel_77 : decode cX6_hearPanel 77 = .ok (.if_icmp .eq 11, 3) := by decide +kernel
theorem dX6_hearPanel_80 : decode cX6_hearPanel 80 = .ok (.aload_n 0, 1) := by decide +kernel
theorem dX6_hearPanel_81 : decode cX6_hearPanel 81 = .ok (.aload 4, 2) := by decide +kernel
theorem dX6_hearPanel_83 : decode cX6_hearPanel 83 = .ok (.iload 5, 2) := by decide +kernel
theorem dX6_hearPanel_85 : decode cX6_hearPanel 85 = .ok (.invokevirtual 225, 3) := by decide +kernel
theorem dX6_hearPanel_88 : decode cX6_hearPanel 88 = .ok (.iload 5, 2) := by decide +kernel
theorem dX6_hearPanel_90 : decode cX6_hearPanel 90 = .ok (.ireturn, 1) := by decide +kernel
theorem dX6_settleLoss_0 : decode cX6_settleLoss 0 = .ok (.iconst 0, 1) := by decide +kernel
theorem dX6_settleLoss_1 : decode cX6_settleLoss 1 = .ok (.istore_n 3, 1) := by decide +kernel
theorem dX6_settleLoss_2 : decode cX6_settleLoss 2 = .ok (.iload_n 2, 1) := by decide +kernel
theorem dX6_settleLoss_3 : decode cX6_settleLoss 3 = .ok (.iconst 1, 1) := by decide +kernel
theorem dX6_settleLoss_4 : decode cX6_settleLoss 4 = .ok (.if_icmp .ne 11, 3) := by decide +kernel
theorem dX6_settleLoss_7 : decode cX6_settleLoss 7 = .ok (.aload_n 1, 1) := by decide +kernel
theorem dX6_settleLoss_8 : decode cX6_settleLoss 8 = .ok (.getfield 229, 3) := by decide +kernel
theorem dX6_settleLoss_11 : decode cX6_settleLoss 11 = .ok (.istore_n 3, 1) := by decide +kernel
theorem dX6_settleLoss_12 : decode cX6_settleLoss 12 = .ok (.goto 15, 3) := by decide +kernel
theorem dX6_settleLoss_15 : decode cX6_settleLoss 15 = .ok (.iload_n 2, 1) := by decide +kernel
theorem dX6_settleLoss_16 : decode cX6_settleLoss 16 = .ok (.iconst 2, 1) := by decide +kernel
theorem dX6_settleLoss_17 : decode cX6_settleLoss 17 = .ok (.if_icmp .ne 10, 3) := by decide +kernel
theorem dX6_settleLoss_20 : decode cX6_settleLoss 20 = .ok (.aload_n 1, 1) := by decide +kernel
theorem dX6_settleLoss_21 : decode cX6_settleLoss 21 = .ok (.getfield 229, 3) := by decide +kernel
theorem dX6_settleLoss_24 : decode cX6_settleLoss 24 = .ok (.iconst 2, 1) := by decide +kernel
theorem dX6_settleLoss_25 : decode cX6_settleLoss 25 = .ok (.idiv, 1) := by decide +kernel
theorem dX6_settleLoss_26 : decode cX6_settleLoss 26 = .ok (.istore_n 3, 1) := by decide +kernel
theorem dX6_settleLoss_27 : decode cX6_settleLoss 27 = .ok (.aload_n 0, 1) := by decide +kernel
theorem dX6_settleLoss_28 : decode cX6_settleLoss 28 = .ok (.getfield 18, 3) := by decide +kernel
theorem dX6_settleLoss_31 : decode cX6_settleLoss 31 = .ok (.aload_n 1, 1) := by decide +kernel
theorem dX6_settleLoss_32 : decode cX6_settleLoss 32 = .ok (.getfield 155, 3) := by decide +kernel
theorem dX6_settleLoss_35 : decode cX6_settleLoss 35 = .ok (.invokevirtual 59, 3) := by decide +kernel
theorem dX6_settleLoss_38 : decode cX6_settleLoss 38 = .ok (.ifCond .eq 25, 3) := by decide +kernel
theorem dX6_settleLoss_41 : decode cX6_settleLoss 41 = .ok (.aload_n 0, 1) := by decide +kernel
theorem dX6_settleLoss_42 : decode cX6_settleLoss 42 = .ok (.getfield 18, 3) := by decide +kernel
theorem dX6_settleLoss_45 : decode cX6_settleLoss 45 = .ok (.getfield 63, 3) := by decide +kernel
theorem dX6_settleLoss_48 : decode cX6_settleLoss 48 = .ok (.aload_n 1, 1) := by decide +kernel
theorem dX6_settleLoss_49 : decode cX6_settleLoss 49 = .ok (.getfield 155, 3) := by decide +kernel
theorem dX6_settleLoss_52 : decode cX6_settleLoss 52 = .ok (.aaload, 1) := by decide +kernel
theorem dX6_settleLoss_53 : decode cX6_settleLoss 53 = .ok (.iconst 1, 1) := by decide +kernel
theorem dX6_settleLoss_54 : decode cX6_settleLoss 54 = .ok (.aload_n 1, 1) := by decide +kernel
theorem dX6_settleLoss_55 : decode cX6_settleLoss 55 = .ok (.getfield 229, 3) := by decide +kernel
theorem dX6_settleLoss_58 : decode cX6_settleLoss 58 = .ok (.iload_n 3, 1) := by decide +kernel
theorem dX6_settleLoss_59 : decode cX6_settleLoss 59 = .ok (.isub, 1) := by decide +kernel
theorem dX6_settleLoss_60 : decode cX6_settleLoss 60 = .ok (.invokevirtual 163, 3) := by decide +kernel
theorem dX6_settleLoss_63 : decode cX6_settleLoss 63 = .ok (.aload_n 0, 1) := by decide +kernel
theorem dX6_settleLoss_64 : decode cX6_settleLoss 64 = .ok (.getfield 18, 3) := by decide +kernel
theorem dX6_settleLoss_67 : decode cX6_settleLoss 67 = .ok (.iload_n 3, 1) := by decide +kernel
theorem dX6_settleLoss_68 : decode cX6_settleLoss 68 = .ok (.iconst 1, 1) := by decide +kernel
theorem dX6_settleLoss_69 : decode cX6_settleLoss 69 = .ok (.iload_n 2, 1) := by decide +kernel
theorem dX6_settleLoss_70 : decode cX6_settleLoss 70 = .ok (.iconst 1, 1) := by decide +kernel
theorem dX6_settleLoss_71 : decode cX6_settleLoss 71 = .ok (.if_icmp .ne 7, 3) := by decide +kernel
theorem dX6_settleLoss_74 : decode cX6_settleLoss 74 = .ok (.iconst (-1), 1) := by decide +kernel
theorem dX6_settleLoss_75 : decode cX6_settleLoss 75 = .ok (.goto 7, 3) := by decide +kernel
theorem dX6_settleLoss_78 : decode cX6_settleLoss 78 = .ok (.aload_n 1, 1) := by decide +kernel
theorem dX6_settleLoss_79 : decode cX6_settleLoss 79 = .ok (.getfield 155, 3) := by decide +kernel
theorem dX6_settleLoss_82 : decode cX6_settleLoss 82 = .ok (.invokevirtual 232, 3) := by decide +kernel
theorem dX6_settleLoss_85 : decode cX6_settleLoss 85 = .ok (.aload_n 1, 1) := by decide +kernel
theorem dX6_settleLoss_86 : decode cX6_settleLoss 86 = .ok (.invokevirtual 235, 3) := by decide +kernel
theorem dX6_settleLoss_89 : decode cX6_settleLoss 89 = .ok (.return_, 1) := by decide +kernel
theorem dX6_findTool_0 : decode cX6_findTool 0 = .ok (.aload_n 0, 1) := by decide +kernel
theorem dX6_findTool_1 : decode cX6_findTool 1 = .ok (.iload_n 1, 1) := by decide +kernel
theorem dX6_findTool_2 : decode cX6_findTool 2 = .ok (.invokevirtual 88, 3) := by decide +kernel
theorem dX6_findTool_5 : decode cX6_findTool 5 = .ok (.ifCond .ne 6, 3) := by decide +kernel
theorem dX6_findTool_8 : decode cX6_findTool 8 = .ok (.ldc 58, 2) := by decide +kernel
theorem dX6_findTool_10 : decode cX6_findTool 10 = .ok (.ireturn, 1) := by decide +kernel
theorem dX6_findTool_11 : decode cX6_findTool 11 = .ok (.aload_n 0, 1) := by decide +kernel
theorem dX6_findTool_12 : decode cX6_findTool 12 = .ok (.getfield 24, 3) := by decide +kernel
theorem dX6_findTool_15 : decode cX6_findTool 15 = .ok (.iload_n 1, 1) := by decide +kernel
theorem dX6_findTool_16 : decode cX6_findTool 16 = .ok (.aaload, 1) := by decide +kernel
theorem dX6_findTool_17 : decode cX6_findTool 17 = .ok (.getfield 94, 3) := by decide +kernel
theorem dX6_findTool_20 : decode cX6_findTool 20 = .ok (.iconst 2, 1) := by decide +kernel
theorem dX6_findTool_21 : decode cX6_findTool 21 = .ok (.if_icmp .eq 6, 3) := by decide +kernel
theorem dX6_findTool_24 : decode cX6_findTool 24 = .ok (.ldc 84, 2) := by decide +kernel
theorem dX6_findTool_26 : decode cX6_findTool 26 = .ok (.ireturn, 1) := by decide +kernel
theorem dX6_findTool_27 : decode cX6_findTool 27 = .ok (.aload_n 0, 1) := by decide +kernel
theorem dX6_findTool_28 : decode cX6_findTool 28 = .ok (.getfield 24, 3) := by decide +kernel
theorem dX6_findTool_31 : decode cX6_findTool 31 = .ok (.iload_n 1, 1) := by decide +kernel
theorem dX6_findTool_32 : decode cX6_findTool 32 = .ok (.aaload, 1) := by decide +kernel
theorem dX6_findTool_33 : decode cX6_findTool 33 = .ok (.iconst 0, 1) := by decide +kernel
theorem dX6_findTool_34 : decode cX6_findTool 34 = .ok (.putfield 94, 3) := by decide +kernel
theorem dX6_findTool_37 : decode cX6_findTool 37 = .ok (.aload_n 0, 1) := by decide +kernel
theorem dX6_findTool_38 : decode cX6_findTool 38 = .ok (.getfield 24, 3) := by decide +kernel
theorem dX6_findTool_41 : decode cX6_findTool 41 = .ok (.iload_n 1, 1) := by decide +kernel
theorem dX6_findTool_42 : decode cX6_findTool 42 = .ok (.aaload, 1) := by decide +kernel
theorem dX6_findTool_43 : decode cX6_findTool 43 = .ok (.getfield 97, 3) := by decide +kernel
theorem dX6_findTool_46 : decode cX6_findTool 46 = .ok (.invokevirtual 238, 3) := by decide +kernel
theorem dX6_findTool_49 : decode cX6_findTool 49 = .ok (.ireturn, 1) := by decide +kernel
theorem dX6_tellOfPanel_0 : decode cX6_tellOfPanel 0 = .ok (.aload_n 0, 1) := by decide +kernel
theorem dX6_tellOfPanel_1 : decode cX6_tellOfPanel 1 = .ok (.iload_n 1, 1) := by decide +kernel
theorem dX6_tellOfPanel_2 : decode cX6_tellOfPanel 2 = .ok (.invokevirtual 88, 3) := by decide +kernel
theorem dX6_tellOfPanel_5 : decode cX6_tellOfPanel 5 = .ok (.ifCond .eq 21, 3) := by decide +kernel
theorem dX6_tellOfPanel_8 : decode cX6_tellOfPanel 8 = .ok (.iload_n 2, 1) := by decide +kernel
theorem dX6_tellOfPanel_9 : decode cX6_tellOfPanel 9 = .ok (.ifCond .lt 17, 3) := by decide +kernel
theorem dX6_tellOfPanel_12 : decode cX6_tellOfPanel 12 = .ok (.iload_n 2, 1) := by decide +kernel
theorem dX6_tellOfPanel_13 : decode cX6_tellOfPanel 13 = .ok (.iconst 3, 1) := by decide +kernel
theorem dX6_tellOfPanel_14 : decode cX6_tellOfPanel 14 = .ok (.if_icmp .ge 12, 3) := by decide +kernel
theorem dX6_tellOfPanel_17 : decode cX6_tellOfPanel 17 = .ok (.iload_n 3, 1) := by decide +kernel
theorem dX6_tellOfPanel_18 : decode cX6_tellOfPanel 18 = .ok (.ifCond .lt 8, 3) := by decide +kernel
theorem dX6_tellOfPanel_21 : decode cX6_tellOfPanel 21 = .ok (.iload_n 3, 1) := by decide +kernel
theorem dX6_tellOfPanel_22 : decode cX6_tellOfPanel 22 = .ok (.iconst 1, 1) := by decide +kernel
theorem dX6_tellOfPanel_23 : decode cX6_tellOfPanel 23 = .ok (.if_icmp .le 6, 3) := by decide +kernel
theorem dX6_tellOfPanel_26 : decode cX6_tellOfPanel 26 = .ok (.ldc 58, 2) := by decide +kernel
theorem dX6_tellOfPanel_28 : decode cX6_tellOfPanel 28 = .ok (.ireturn, 1) := by decide +kernel
theorem dX6_tellOfPanel_29 : decode cX6_tellOfPanel 29 = .ok (.aload_n 0, 1) := by decide +kernel
theorem dX6_tellOfPanel_30 : decode cX6_tellOfPanel 30 = .ok (.getfield 24, 3) := by decide +kernel
theorem dX6_tellOfPanel_33 : decode cX6_tellOfPanel 33 = .ok (.iload_n 1, 1) := by decide +kernel
theorem dX6_tellOfPanel_34 : decode cX6_tellOfPanel 34 = .ok (.aaload, 1) := by decide +kernel
theorem dX6_tellOfPanel_35 : decode cX6_tellOfPanel 35 = .ok (.getfield 94, 3) := by decide +kernel
theorem dX6_tellOfPanel_38 : decode cX6_tellOfPanel 38 = .ok (.iconst 2, 1) := by decide +kernel
theorem dX6_tellOfPanel_39 : decode cX6_tellOfPanel 39 = .ok (.if_icmp .eq 6, 3) := by decide +kernel
theorem dX6_tellOfPanel_42 : decode cX6_tellOfPanel 42 = .ok (.ldc 144, 2) := by decide +kernel
theorem dX6_tellOfPanel_44 : decode cX6_tellOfPanel 44 = .ok (.ireturn, 1) := by decide +kernel
theorem dX6_tellOfPanel_45 : decode cX6_tellOfPanel 45 = .ok (.aload_n 0, 1) := by decide +kernel
theorem dX6_tellOfPanel_46 : decode cX6_tellOfPanel 46 = .ok (.getfield 24, 3) := by decide +kernel
theorem dX6_tellOfPanel_49 : decode cX6_tellOfPanel 49 = .ok (.iload_n 1, 1) := by decide +kernel
theorem dX6_tellOfPanel_50 : decode cX6_tellOfPanel 50 = .ok (.aaload, 1) := by decide +kernel
theorem dX6_tellOfPanel_51 : decode cX6_tellOfPanel 51 = .ok (.getfield 97, 3) := by decide +kernel
theorem dX6_tellOfPanel_54 : decode cX6_tellOfPanel 54 = .ok (.astore 4, 2) := by decide +kernel
theorem dX6_tellOfPanel_56 : decode cX6_tellOfPanel 56 = .ok (.iload_n 3, 1) := by decide +kernel
theorem dX6_tellOfPanel_57 : decode cX6_tellOfPanel 57 = .ok (.ifCond .ne 11, 3) := by decide +kernel
theorem dX6_tellOfPanel_60 : decode cX6_tellOfPanel 60 = .ok (.aload 4, 2) := by decide +kernel
theorem dX6_tellOfPanel_62 : decode cX6_tellOfPanel 62 = .ok (.getfield 216, 3) := by decide +kernel
theorem dX6_tellOfPanel_65 : decode cX6_tellOfPanel 65 = .ok (.iload_n 2, 1) := by decide +kernel
theorem dX6_tellOfPanel_66 : decode cX6_tellOfPanel 66 = .ok (.iaload, 1) := by decide +kernel
theorem dX6_tellOfPanel_67 : decode cX6_tellOfPanel 67 = .ok (.ireturn, 1) := by decide +kernel
theorem dX6_tellOfPanel_68 : decode cX6_tellOfPanel 68 = .ok (.aload 4, 2) := by decide +kernel
theorem dX6_tellOfPanel_70 : decode cX6_tellOfPanel 70 = .ok (.getfield 241, 3) := by decide +kernel
theorem dX6_tellOfPanel_73 : decode cX6_tellOfPanel 73 = .ok (.iload_n 2, 1) := by decide +kernel
theorem dX6_tellOfPanel_74 : decode cX6_tellOfPanel 74 = .ok (.iaload, 1) := by decide +kernel
theorem dX6_tellOfPanel_75 : decode cX6_tellOfPanel 75 = .ok (.iconst (-1), 1) := by decide +kernel
theorem dX6_tellOfPanel_76 : decode cX6_tellOfPanel 76 = .ok (.if_icmp .ne 8, 3) := by decide +kernel
theorem dX6_tellOfPanel_79 : decode cX6_tellOfPanel 79 = .ok (.ldc 144, 2) := by decide +kernel
theorem dX6_tellOfPanel_81 : decode cX6_tellOfPanel 81 = .ok (.goto 10, 3) := by decide +kernel
theorem dX6_tellOfPanel_84 : decode cX6_tellOfPanel 84 = .ok (.aload 4, 2) := by decide +kernel
theorem dX6_tellOfPanel_86 : decode cX6_tellOfPanel 86 = .ok (.getfield 241, 3) := by decide +kernel
theorem dX6_tellOfPanel_89 : decode cX6_tellOfPanel 89 = .ok (.iload_n 2, 1) := by decide +kernel
theorem dX6_tellOfPanel_90 : decode cX6_tellOfPanel 90 = .ok (.iaload, 1) := by decide +kernel
theorem dX6_tellOfPanel_91 : decode cX6_tellOfPanel 91 = .ok (.ireturn, 1) := by decide +kernel
theorem dX6_openProposal_0 : decode cX6_openProposal 0 = .ok (.aload_n 0, 1) := by decide +kernel
theorem dX6_openProposal_1 : decode cX6_openProposal 1 = .ok (.iload_n 1, 1) := by decide +kernel
theorem dX6_openProposal_2 : decode cX6_openProposal 2 = .ok (.invokevirtual 88, 3) := by decide +kernel
theorem dX6_openProposal_5 : decode cX6_openProposal 5 = .ok (.ifCond .eq 33, 3) := by decide +kernel
theorem dX6_openProposal_8 : decode cX6_openProposal 8 = .ok (.iload_n 2, 1) := by decide +kernel
theorem dX6_openProposal_9 : decode cX6_openProposal 9 = .ok (.iconst 1, 1) := by decide +kernel
theorem dX6_openProposal_10 : decode cX6_openProposal 10 = .ok (.if_icmp .lt 28, 3) := by decide +kernel
theorem dX6_openProposal_13 : decode cX6_openProposal 13 = .ok (.iload_n 2, 1) := by decide +kernel
theorem dX6_openProposal_14 : decode cX6_openProposal 14 = .ok (.sipush 400, 3) := by decide +kernel
theorem dX6_openProposal_17 : decode cX6_openProposal 17 = .ok (.if_icmp .gt 21, 3) := by decide +kernel
theorem dX6_openProposal_20 : decode cX6_openProposal 20 = .ok (.iload_n 3, 1) := by decide +kernel
theorem dX6_openProposal_21 : decode cX6_openProposal 21 = .ok (.iconst 1, 1) := by decide +kernel
theorem dX6_openProposal_22 : decode cX6_openProposal 22 = .ok (.if_icmp .lt 16, 3) := by decide +kernel
theorem dX6_openProposal_25 : decode cX6_openProposal 25 = .ok (.iload_n 3, 1) := by decide +kernel
theorem dX6_openProposal_26 : decode cX6_openProposal 26 = .ok (.aload_n 0, 1) := by decide +kernel
theorem dX6_openProposal_27 : decode cX6_openProposal 27 = .ok (.getfield 24, 3) := by decide +kernel
theorem dX6_openProposal_30 : decode cX6_openProposal 30 = .ok (.iload_n 1, 1) := by decide +kernel
theorem dX6_openProposal_31 : decode cX6_openProposal 31 = .ok (.aaload, 1) := by decide +kernel
theorem dX6_openProposal_32 : decode cX6_openProposal 32 = .ok (.getfield 244, 3) := by decide +kernel
theorem dX6_openProposal_35 : decode cX6_openProposal 35 = .ok (.if_icmp .le 6, 3) := by decide +kernel
theorem dX6_openProposal_38 : decode cX6_openProposal 38 = .ok (.ldc 58, 2) := by decide +kernel
theorem dX6_openProposal_40 : decode cX6_openProposal 40 = .ok (.ireturn, 1) := by decide +kernel
theorem dX6_openProposal_41 : decode cX6_openProposal 41 = .ok (.aload_n 0, 1) := by decide +kernel
theorem dX6_openProposal_42 : decode cX6_openProposal 42 = .ok (.getfield 24, 3) := by decide +kernel
theorem dX6_openProposal_45 : decode cX6_openProposal 45 = .ok (.iload_n 1, 1) := by decide +kernel
theorem dX6_openProposal_46 : decode cX6_openProposal 46 = .ok (.aaload, 1) := by decide +kernel
theorem dX6_openProposal_47 : decode cX6_openProposal 47 = .ok (.astore 4, 2) := by decide +kernel
theorem dX6_openProposal_49 : decode cX6_openProposal 49 = .ok (.aload 4, 2) := by decide +kernel
theorem dX6_openProposal_51 : decode cX6_openProposal 51 = .ok (.getfield 94, 3) := by decide +kernel
theorem dX6_openProposal_54 : decode cX6_openProposal 54 = .ok (.iconst 4, 1) := by decide +kernel
theorem dX6_openProposal_55 : decode cX6_openProposal 55 = .ok (.if_icmp .eq 25, 3) := by decide +kernel
theorem dX6_openProposal_58 : decode cX6_openProposal 58 = .ok (.aload 4, 2) := by decide +kernel
theorem dX6_openProposal_60 : decode cX6_openProposal 60 = .ok (.getfield 247, 3) := by decide +kernel
theorem dX6_openProposal_63 : decode cX6_openProposal 63 = .ok (.getfield 251, 3) := by decide +kernel
theorem dX6_openProposal_66 : decode cX6_openProposal 66 = .ok (.ifCond .ne 14, 3) := by decide +kernel
theorem dX6_openProposal_69 : decode cX6_openProposal 69 = .ok (.aload_n 0, 1) := by decide +kernel
theorem dX6_openProposal_70 : decode cX6_openProposal 70 = .ok (.getfield 18, 3) := by decide +kernel
theorem dX6_openProposal_73 : decode cX6_openProposal 73 = .ok (.iconst (-1), 1) := by decide +kernel
theorem dX6_openProposal_74 : decode cX6_openProposal 74 = .ok (.invokevirtual 80, 3) := by decide +kernel
theorem dX6_openProposal_77 : decode cX6_openProposal 77 = .ok (.ifCond .ne 6, 3) := by decide +kernel
theorem dX6_openProposal_80 : decode cX6_openProposal 80 = .ok (.ldc 84, 2) := by decide +kernel
theorem dX6_openProposal_82 : decode cX6_openProposal 82 = .ok (.ireturn, 1) := by decide +kernel
theorem dX6_openProposal_83 : decode cX6_openProposal 83 = .ok (.aload 4, 2) := by decide +kernel
theorem dX6_openProposal_85 : decode cX6_openProposal 85 = .ok (.getfield 247, 3) := by decide +kernel
theorem dX6_openProposal_88 : decode cX6_openProposal 88 = .ok (.iload_n 2, 1) := by decide +kernel
theorem dX6_openProposal_89 : decode cX6_openProposal 89 = .ok (.iload_n 3, 1) := by decide +kernel
theorem dX6_openProposal_90 : decode cX6_openProposal 90 = .ok (.aload_n 0, 1) := by decide +kernel
theorem dX6_openProposal_91 : decode cX6_openProposal 91 = .ok (.getfield 49, 3) := by decide +kernel
theorem dX6_openProposal_94 : decode cX6_openProposal 94 = .ok (.aload_n 0, 1) := by decide +kernel
theorem dX6_openProposal_95 : decode cX6_openProposal 95 = .ok (.getfield 9, 3) := by decide +kernel
theorem dX6_openProposal_98 : decode cX6_openProposal 98 = .ok (.bipush 6, 2) := by decide +kernel
theorem dX6_openProposal_100 : decode cX6_openProposal 100 = .ok (.iaload, 1) := by decide +kernel
theorem dX6_openProposal_101 : decode cX6_openProposal 101 = .ok (.iadd, 1) := by decide +kernel
theorem dX6_openProposal_102 : decode cX6_openProposal 102 = .ok (.invokevirtual 257, 3) := by decide +kernel
theorem dX6_openProposal_105 : decode cX6_openProposal 105 = .ok (.aload 4, 2) := by decide +kernel
theorem dX6_openProposal_107 : decode cX6_openProposal 107 = .ok (.getfield 247, 3) := by decide +kernel
theorem dX6_openProposal_110 : decode cX6_openProposal 110 = .ok (.getfield 258, 3) := by decide +kernel
theorem dX6_openProposal_113 : decode cX6_openProposal 113 = .ok (.ireturn, 1) := by decide +kernel
theorem dX6_takeVote_0 : decode cX6_takeVote 0 = .ok (.aload_n 0, 1) := by decide +kernel
theorem dX6_takeVote_1 : decode cX6_takeVote 1 = .ok (.iload_n 1, 1) := by decide +kernel
theorem dX6_takeVote_2 : decode cX6_takeVote 2 = .ok (.invokevirtual 88, 3) := by decide +kernel
theorem dX6_takeVote_5 : decode cX6_takeVote 5 = .ok (.ifCond .eq 23, 3) := by decide +kernel
theorem dX6_takeVote_8 : decode cX6_takeVote 8 = .ok (.aload_n 0, 1) := by decide +kernel
theorem dX6_takeVote_9 : decode cX6_takeVote 9 = .ok (.getfield 18, 3) := by decide +kernel
theorem dX6_takeVote_12 : decode cX6_takeVote 12 = .ok (.iload_n 2, 1) := by decide +kernel
theorem dX6_takeVote_13 : decode cX6_takeVote 13 = .ok (.invokevirtual 59, 3) := by decide +kernel
theorem dX6_takeVote_16 : decode cX6_takeVote 16 = .ok (.ifCond .eq 12, 3) := by decide +kernel
theorem dX6_takeVote_19 : decode cX6_takeVote 19 = .ok (.iload_n 3, 1) := by decide +kernel
theorem dX6_takeVote_20 : decode cX6_takeVote 20 = .ok (.ifCond .lt 8, 3) := by decide +kernel
theorem dX6_takeVote_23 : decode cX6_takeVote 23 = .ok (.iload_n 3, 1) := by decide +kernel
theorem dX6_takeVote_24 : decode cX6_takeVote 24 = .ok (.iconst 1, 1) := by decide +kernel
theorem dX6_takeVote_25 : decode cX6_takeVote 25 = .ok (.if_icmp .le 6, 3) := by decide +kernel
theorem dX6_takeVote_28 : decode cX6_takeVote 28 = .ok (.ldc 58, 2) := by decide +kernel
theorem dX6_takeVote_30 : decode cX6_takeVote 30 = .ok (.ireturn, 1) := by decide +kernel
theorem dX6_takeVote_31 : decode cX6_takeVote 31 = .ok (.aload_n 0, 1) := by decide +kernel
theorem dX6_takeVote_32 : decode cX6_takeVote 32 = .ok (.getfield 24, 3) := by decide +kernel
theorem dX6_takeVote_35 : decode cX6_takeVote 35 = .ok (.iload_n 1, 1) := by decide +kernel
theorem dX6_takeVote_36 : decode cX6_takeVote 36 = .ok (.aaload, 1) := by decide +kernel
theorem dX6_takeVote_37 : decode cX6_takeVote 37 = .ok (.getfield 247, 3) := by decide +kernel
theorem dX6_takeVote_40 : decode cX6_takeVote 40 = .ok (.astore 4, 2) := by decide +kernel
theorem dX6_takeVote_42 : decode cX6_takeVote 42 = .ok (.aload 4, 2) := by decide +kernel
theorem dX6_takeVote_44 : decode cX6_takeVote 44 = .ok (.getfield 251, 3) := by decide +kernel
theorem dX6_takeVote_47 : decode cX6_takeVote 47 = .ok (.ifCond .eq 27, 3) := by decide +kernel
theorem dX6_takeVote_50 : decode cX6_takeVote 50 = .ok (.aload_n 0, 1) := by decide +kernel
theorem dX6_takeVote_51 : decode cX6_takeVote 51 = .ok (.getfield 18, 3) := by decide +kernel
theorem dX6_takeVote_54 : decode cX6_takeVote 54 = .ok (.getfield 63, 3) := by decide +kernel
theorem dX6_takeVote_57 : decode cX6_takeVote 57 = .ok (.iload_n 2, 1) := by decide +kernel
theorem dX6_takeVote_58 : decode cX6_takeVote 58 = .ok (.aaload, 1) := by decide +kernel
theorem dX6_takeVote_59 : decode cX6_takeVote 59 = .ok (.invokevirtual 67, 3) := by decide +kernel
theorem dX6_takeVote_62 : decode cX6_takeVote 62 = .ok (.ifCond .ne 12, 3) := by decide +kernel
theorem dX6_takeVote_65 : decode cX6_takeVote 65 = .ok (.aload 4, 2) := by decide +kernel
theorem dX6_takeVote_67 : decode cX6_takeVote 67 = .ok (.iload_n 2, 1) := by decide +kernel
theorem dX6_takeVote_68 : decode cX6_takeVote 68 = .ok (.invokevirtual 261, 3) := by decide +kernel
theorem dX6_takeVote_71 : decode cX6_takeVote 71 = .ok (.ifCond .eq 6, 3) := by decide +kernel
theorem dX6_takeVote_74 : decode cX6_takeVote 74 = .ok (.ldc 84, 2) := by decide +kernel
theorem dX6_takeVote_76 : decode cX6_takeVote 76 = .ok (.ireturn, 1) := by decide +kernel
theorem dX6_takeVote_77 : decode cX6_takeVote 77 = .ok (.aload 4, 2) := by decide +kernel
theorem dX6_takeVote_79 : decode cX6_takeVote 79 = .ok (.iload_n 2, 1) := by decide +kernel
theorem dX6_takeVote_80 : decode cX6_takeVote 80 = .ok (.iload_n 3, 1) := by decide +kernel
theorem dX6_takeVote_81 : decode cX6_takeVote 81 = .ok (.iconst 1, 1) := by decide +kernel
theorem dX6_takeVote_82 : decode cX6_takeVote 82 = .ok (.if_icmp .ne 7, 3) := by decide +kernel
theorem dX6_takeVote_85 : decode cX6_takeVote 85 = .ok (.iconst 1, 1) := by decide +kernel
theorem dX6_takeVote_86 : decode cX6_takeVote 86 = .ok (.goto 4, 3) := by decide +kernel
theorem dX6_takeVote_89 : decode cX6_takeVote 89 = .ok (.iconst 0, 1) := by decide +kernel
theorem dX6_takeVote_90 : decode cX6_takeVote 90 = .ok (.invokevirtual 264, 3) := by decide +kernel
theorem dX6_takeVote_93 : decode cX6_takeVote 93 = .ok (.aload 4, 2) := by decide +kernel
theorem dX6_takeVote_95 : decode cX6_takeVote 95 = .ok (.aload_n 0, 1) := by decide +kernel
theorem dX6_takeVote_96 : decode cX6_takeVote 96 = .ok (.getfield 18, 3) := by decide +kernel
theorem dX6_takeVote_99 : decode cX6_takeVote 99 = .ok (.iconst (-1), 1) := by decide +kernel
theorem dX6_takeVote_100 : decode cX6_takeVote 100 = .ok (.invokevirtual 80, 3) := by decide +kernel
theorem dX6_takeVote_103 : decode cX6_takeVote 103 = .ok (.invokevirtual 268, 3) := by decide +kernel
theorem dX6_takeVote_106 : decode cX6_takeVote 106 = .ok (.istore 5, 2) := by decide +kernel
theorem dX6_takeVote_108 : decode cX6_takeVote 108 = .ok (.iload 5, 2) := by decide +kernel
theorem dX6_takeVote_110 : decode cX6_takeVote 110 = .ok (.iconst 1, 1) := by decide +kernel
theorem dX6_takeVote_111 : decode cX6_takeVote 111 = .ok (.if_icmp .ne 36, 3) := by decide +kernel
theorem dX6_takeVote_114 : decode cX6_takeVote 114 = .ok (.aload_n 0, 1) := by decide +kernel
theorem dX6_takeVote_115 : decode cX6_takeVote 115 = .ok (.getfield 18, 3) := by decide +kernel
theorem dX6_takeVote_118 : decode cX6_takeVote 118 = .ok (.aload 4, 2) := by decide +kernel
theorem dX6_takeVote_120 : decode cX6_takeVote 120 = .ok (.getfield 271, 3) := by decide +kernel
theorem dX6_takeVote_123 : decode cX6_takeVote 123 = .ok (.iconst 2, 1) := by decide +kernel
theorem dX6_takeVote_124 : decode cX6_takeVote 124 = .ok (.iconst (-1), 1) := by decide +kernel
theorem dX6_takeVote_125 : decode cX6_takeVote 125 = .ok (.invokevirtual 232, 3) := by decide +kernel
theorem dX6_takeVote_128 : decode cX6_takeVote 128 = .ok (.aload_n 0, 1) := by decide +kernel
theorem dX6_takeVote_129 : decode cX6_takeVote 129 = .ok (.getfield 24, 3) := by decide +kernel
theorem dX6_takeVote_132 : decode cX6_takeVote 132 = .ok (.iload_n 1, 1) := by decide +kernel
theorem dX6_takeVote_133 : decode cX6_takeVote 133 = .ok (.aaload, 1) := by decide +kernel
theorem dX6_takeVote_134 : decode cX6_takeVote 134 = .ok (.dup, 1) := by decide +kernel
theorem dX6_takeVote_135 : decode cX6_takeVote 135 = .ok (.getfield 244, 3) := by decide +kernel
theorem dX6_takeVote_138 : decode cX6_takeVote 138 = .ok (.aload 4, 2) := by decide +kernel
theorem dX6_takeVote_140 : decode cX6_takeVote 140 = .ok (.getfield 274, 3) := by decide +kernel
theorem dX6_takeVote_143 : decode cX6_takeVote 143 = .ok (.isub, 1) := by decide +kernel
theorem dX6_takeVote_144 : decode cX6_takeVote 144 = .ok (.putfield 244, 3) := by decide +kernel
theorem dX6_takeVote_147 : decode cX6_takeVote 147 = .ok (.aload 4, 2) := by decide +kernel
theorem dX6_takeVote_149 : decode cX6_takeVote 149 = .ok (.iload 5, 2) := by decide +kernel
theorem dX6_takeVote_151 : decode cX6_takeVote 151 = .ok (.iconst 2, 1) := by decide +kernel
theorem dX6_takeVote_152 : decode cX6_takeVote 152 = .ok (.if_icmp .ne 7, 3) := by decide +kernel
theorem dX6_takeVote_155 : decode cX6_takeVote 155 = .ok (.iconst 1, 1) := by decide +kernel
theorem dX6_takeVote_156 : decode cX6_takeVote 156 = .ok (.goto 4, 3) := by decide +kernel
theorem dX6_takeVote_159 : decode cX6_takeVote 159 = .ok (.iconst 0, 1) := by decide +kernel
theorem dX6_takeVote_160 : decode cX6_takeVote 160 = .ok (.putfield 251, 3) := by decide +kernel
theorem dX6_takeVote_163 : decode cX6_takeVote 163 = .ok (.iload 5, 2) := by decide +kernel
theorem dX6_takeVote_165 : decode cX6_takeVote 165 = .ok (.ireturn, 1) := by decide +kernel
theorem dX6_tellOfProposal_0 : decode cX6_tellOfProposal 0 = .ok (.aload_n 0, 1) := by decide +kernel
theorem dX6_tellOfProposal_1 : decode cX6_tellOfProposal 1 = .ok (.iload_n 1, 1) := by decide +kernel
theorem dX6_tellOfProposal_2 : decode cX6_tellOfProposal 2 = .ok (.invokevirtual 88, 3) := by decide +kernel
theorem dX6_tellOfProposal_5 : decode cX6_tellOfProposal 5 = .ok (.ifCond .eq 12, 3) := by decide +kernel
theorem dX6_tellOfProposal_8 : decode cX6_tellOfProposal 8 = .ok (.iload_n 2, 1) := by decide +kernel
theorem dX6_tellOfProposal_9 : decode cX6_tellOfProposal 9 = .ok (.ifCond .lt 8, 3) := by decide +kernel
theorem dX6_tellOfProposal_12 : decode cX6_tellOfProposal 12 = .ok (.iload_n 2, 1) := by decide +kernel
theorem dX6_tellOfProposal_13 : decode cX6_tellOfProposal 13 = .ok (.iconst 4, 1) := by decide +kernel
theorem dX6_tellOfProposal_14 : decode cX6_tellOfProposal 14 = .ok (.if_icmp .le 6, 3) := by decide +kernel
theorem dX6_tellOfProposal_17 : decode cX6_tellOfProposal 17 = .ok (.ldc 58, 2) := by decide +kernel
theorem dX6_tellOfProposal_19 : decode cX6_tellOfProposal 19 = .ok (.ireturn, 1) := by decide +kernel
theorem dX6_tellOfProposal_20 : decode cX6_tellOfProposal 20 = .ok (.aload_n 0, 1) := by decide +kernel
theorem dX6_tellOfProposal_21 : decode cX6_tellOfProposal 21 = .ok (.getfield 24, 3) := by decide +kernel
theorem dX6_tellOfProposal_24 : decode cX6_tellOfProposal 24 = .ok (.iload_n 1, 1) := by decide +kernel
theorem dX6_tellOfProposal_25 : decode cX6_tellOfProposal 25 = .ok (.aaload, 1) := by decide +kernel
theorem dX6_tellOfProposal_26 : decode cX6_tellOfProposal 26 = .ok (.getfield 247, 3) := by decide +kernel
theorem dX6_tellOfProposal_29 : decode cX6_tellOfProposal 29 = .ok (.astore_n 3, 1) := by decide +kernel
theorem dX6_tellOfProposal_30 : decode cX6_tellOfProposal 30 = .ok (.aload_n 3, 1) := by decide +kernel
theorem dX6_tellOfProposal_31 : decode cX6_tellOfProposal 31 = .ok (.getfield 251, 3) := by decide +kernel
theorem dX6_tellOfProposal_34 : decode cX6_tellOfProposal 34 = .ok (.ifCond .eq 11, 3) := by decide +kernel
theorem dX6_tellOfProposal_37 : decode cX6_tellOfProposal 37 = .ok (.aload_n 3, 1) := by decide +kernel
theorem dX6_tellOfProposal_38 : decode cX6_tellOfProposal 38 = .ok (.iload_n 2, 1) := by decide +kernel
theorem dX6_tellOfProposal_39 : decode cX6_tellOfProposal 39 = .ok (.invokevirtual 277, 3) := by decide +kernel
theorem dX6_tellOfProposal_42 : decode cX6_tellOfProposal 42 = .ok (.goto 5, 3) := by decide +kernel
theorem dX6_tellOfProposal_45 : decode cX6_tellOfProposal 45 = .ok (.ldc 144, 2) := by decide +kernel
theorem dX6_tellOfProposal_47 : decode cX6_tellOfProposal 47 = .ok (.ireturn, 1) := by decide +kernel
theorem dX6_lendToShed_0 : decode cX6_lendToShed 0 = .ok (.aload_n 0, 1) := by decide +kernel
theorem dX6_lendToShed_1 : decode cX6_lendToShed 1 = .ok (.iload_n 1, 1) := by decide +kernel
theorem dX6_lendToShed_2 : decode cX6_lendToShed 2 = .ok (.invokevirtual 88, 3) := by decide +kernel
theorem dX6_lendToShed_5 : decode cX6_lendToShed 5 = .ok (.ifCond .eq 35, 3) := by decide +kernel
theorem dX6_lendToShed_8 : decode cX6_lendToShed 8 = .ok (.iload_n 2, 1) := by decide +kernel
theorem dX6_lendToShed_9 : decode cX6_lendToShed 9 = .ok (.ifCond .lt 31, 3) := by decide +kernel
theorem dX6_lendToShed_12 : decode cX6_lendToShed 12 = .ok (.iload_n 2, 1) := by decide +kernel
theorem dX6_lendToShed_13 : decode cX6_lendToShed 13 = .ok (.iconst 4, 1) := by decide +kernel
theorem dX6_lendToShed_14 : decode cX6_lendToShed 14 = .ok (.if_icmp .ge 26, 3) := by decide +kernel
theorem dX6_lendToShed_17 : decode cX6_lendToShed 17 = .ok (.iload_n 3, 1) := by decide +kernel
theorem dX6_lendToShed_18 : decode cX6_lendToShed 18 = .ok (.iconst 1, 1) := by decide +kernel
theorem dX6_lendToShed_19 : decode cX6_lendToShed 19 = .ok (.if_icmp .lt 21, 3) := by decide +kernel
theorem dX6_lendToShed_22 : decode cX6_lendToShed 22 = .ok (.iload_n 3, 1) := by decide +kernel
theorem dX6_lendToShed_23 : decode cX6_lendToShed 23 = .ok (.bipush 60, 2) := by decide +kernel
theorem dX6_lendToShed_25 : decode cX6_lendToShed 25 = .ok (.if_icmp .gt 15, 3) := by decide +kernel
theorem dX6_lendToShed_28 : decode cX6_lendToShed 28 = .ok (.iload 4, 2) := by decide +kernel
theorem dX6_lendToShed_30 : decode cX6_lendToShed 30 = .ok (.ifCond .lt 10, 3) := by decide +kernel
theorem dX6_lendToShed_33 : decode cX6_lendToShed 33 = .ok (.iload 4, 2) := by decide +kernel
theorem dX6_lendToShed_35 : decode cX6_lendToShed 35 = .ok (.bipush 40, 2) := by decide +kernel
theorem dX6_lendToShed_37 : decode cX6_lendToShed 37 = .ok (.if_icmp .le 6, 3) := by decide +kernel
theorem dX6_lendToShed_40 : decode cX6_lendToShed 40 = .ok (.ldc 58, 2) := by decide +kernel
theorem dX6_lendToShed_42 : decode cX6_lendToShed 42 = .ok (.ireturn, 1) := by decide +kernel
theorem dX6_lendToShed_43 : decode cX6_lendToShed 43 = .ok (.aload_n 0, 1) := by decide +kernel
theorem dX6_lendToShed_44 : decode cX6_lendToShed 44 = .ok (.getfield 24, 3) := by decide +kernel
theorem dX6_lendToShed_47 : decode cX6_lendToShed 47 = .ok (.iload_n 1, 1) := by decide +kernel
theorem dX6_lendToShed_48 : decode cX6_lendToShed 48 = .ok (.aaload, 1) := by decide +kernel
theorem dX6_lendToShed_49 : decode cX6_lendToShed 49 = .ok (.getfield 94, 3) := by decide +kernel
theorem dX6_lendToShed_52 : decode cX6_lendToShed 52 = .ok (.ifCond .eq 6, 3) := by decide +kernel
theorem dX6_lendToShed_55 : decode cX6_lendToShed 55 = .ok (.ldc 84, 2) := by decide +kernel
theorem dX6_lendToShed_57 : decode cX6_lendToShed 57 = .ok (.ireturn, 1) := by decide +kernel
theorem dX6_lendToShed_58 : decode cX6_lendToShed 58 = .ok (.aload_n 0, 1) := by decide +kernel
theorem dX6_lendToShed_59 : decode cX6_lendToShed 59 = .ok (.getfield 24, 3) := by decide +kernel
theorem dX6_lendToShed_62 : decode cX6_lendToShed 62 = .ok (.iload_n 1, 1) := by decide +kernel
theorem dX6_lendToShed_63 : decode cX6_lendToShed 63 = .ok (.aaload, 1) := by decide +kernel
theorem dX6_lendToShed_64 : decode cX6_lendToShed 64 = .ok (.iconst 3, 1) := by decide +kernel
theorem dX6_lendToShed_65 : decode cX6_lendToShed 65 = .ok (.iload_n 2, 1) := by decide +kernel
theorem dX6_lendToShed_66 : decode cX6_lendToShed 66 = .ok (.aload_n 0, 1) := by decide +kernel
theorem dX6_lendToShed_67 : decode cX6_lendToShed 67 = .ok (.getfield 49, 3) := by decide +kernel
theorem dX6_lendToShed_70 : decode cX6_lendToShed 70 = .ok (.iload_n 3, 1) := by decide +kernel
theorem dX6_lendToShed_71 : decode cX6_lendToShed 71 = .ok (.invokevirtual 148, 3) := by decide +kernel
theorem dX6_lendToShed_74 : decode cX6_lendToShed 74 = .ok (.aload_n 0, 1) := by decide +kernel
theorem dX6_lendToShed_75 : decode cX6_lendToShed 75 = .ok (.getfield 24, 3) := by decide +kernel
theorem dX6_lendToShed_78 : decode cX6_lendToShed 78 = .ok (.iload_n 1, 1) := by decide +kernel
theorem dX6_lendToShed_79 : decode cX6_lendToShed 79 = .ok (.aaload, 1) := by decide +kernel
theorem dX6_lendToShed_80 : decode cX6_lendToShed 80 = .ok (.iload 4, 2) := by decide +kernel
theorem dX6_lendToShed_82 : decode cX6_lendToShed 82 = .ok (.putfield 278, 3) := by decide +kernel
theorem dX6_lendToShed_85 : decode cX6_lendToShed 85 = .ok (.aload_n 0, 1) := by decide +kernel
theorem dX6_lendToShed_86 : decode cX6_lendToShed 86 = .ok (.getfield 24, 3) := by decide +kernel
theorem dX6_lendToShed_89 : decode cX6_lendToShed 89 = .ok (.iload_n 1, 1) := by decide +kernel
theorem dX6_lendToShed_90 : decode cX6_lendToShed 90 = .ok (.aaload, 1) := by decide +kernel
theorem dX6_lendToShed_91 : decode cX6_lendToShed 91 = .ok (.getfield 152, 3) := by decide +kernel
theorem dX6_lendToShed_94 : decode cX6_lendToShed 94 = .ok (.ireturn, 1) := by decide +kernel
theorem dX6_takeFromShed_0 : decode cX6_takeFromShed 0 = .ok (.aload_n 0, 1) := by decide +kernel
theorem dX6_takeFromShed_1 : decode cX6_takeFromShed 1 = .ok (.iload_n 1, 1) := by decide +kernel
theorem dX6_takeFromShed_2 : decode cX6_takeFromShed 2 = .ok (.invokevirtual 88, 3) := by decide +kernel
theorem dX6_takeFromShed_5 : decode cX6_takeFromShed 5 = .ok (.ifCond .ne 6, 3) := by decide +kernel
theorem dX6_takeFromShed_8 : decode cX6_takeFromShed 8 = .ok (.ldc 58, 2) := by decide +kernel
theorem dX6_takeFromShed_10 : decode cX6_takeFromShed 10 = .ok (.ireturn, 1) := by decide +kernel
theorem dX6_takeFromShed_11 : decode cX6_takeFromShed 11 = .ok (.aload_n 0, 1) := by decide +kernel
theorem dX6_takeFromShed_12 : decode cX6_takeFromShed 12 = .ok (.getfield 24, 3) := by decide +kernel
theorem dX6_takeFromShed_15 : decode cX6_takeFromShed 15 = .ok (.iload_n 1, 1) := by decide +kernel
theorem dX6_takeFromShed_16 : decode cX6_takeFromShed 16 = .ok (.aaload, 1) := by decide +kernel
theorem dX6_takeFromShed_17 : decode cX6_takeFromShed 17 = .ok (.astore_n 2, 1) := by decide +kernel
theorem dX6_takeFromShed_18 : decode cX6_takeFromShed 18 = .ok (.aload_n 2, 1) := by decide +kernel
theorem dX6_takeFromShed_19 : decode cX6_takeFromShed 19 = .ok (.getfield 94, 3) := by decide +kernel
theorem dX6_takeFromShed_22 : decode cX6_takeFromShed 22 = .ok (.iconst 3, 1) := by decide +kernel
theorem dX6_takeFromShed_23 : decode cX6_takeFromShed 23 = .ok (.if_icmp .ne 14, 3) := by decide +kernel
theorem dX6_takeFromShed_26 : decode cX6_takeFromShed 26 = .ok (.aload_n 0, 1) := by decide +kernel
theorem dX6_takeFromShed_27 : decode cX6_takeFromShed 27 = .ok (.getfield 18, 3) := by decide +kernel
theorem dX6_takeFromShed_30 : decode cX6_takeFromShed 30 = .ok (.iconst (-1), 1) := by decide +kernel
theorem dX6_takeFromShed_31 : decode cX6_takeFromShed 31 = .ok (.invokevirtual 80, 3) := by decide +kernel
theorem dX6_takeFromShed_34 : decode cX6_takeFromShed 34 = .ok (.ifCond .ne 6, 3) := by decide +kernel
theorem dX6_takeFromShed_37 : decode cX6_takeFromShed 37 = .ok (.ldc 84, 2) := by decide +kernel
theorem dX6_takeFromShed_39 : decode cX6_takeFromShed 39 = .ok (.ireturn, 1) := by decide +kernel
theorem dX6_takeFromShed_40 : decode cX6_takeFromShed 40 = .ok (.aload_n 2, 1) := by decide +kernel
theorem dX6_takeFromShed_41 : decode cX6_takeFromShed 41 = .ok (.aload_n 0, 1) := by decide +kernel
theorem dX6_takeFromShed_42 : decode cX6_takeFromShed 42 = .ok (.getfield 49, 3) := by decide +kernel
theorem dX6_takeFromShed_45 : decode cX6_takeFromShed 45 = .ok (.invokevirtual 281, 3) := by decide +kernel
theorem dX6_takeFromShed_48 : decode cX6_takeFromShed 48 = .ok (.istore_n 3, 1) := by decide +kernel
theorem dX6_takeFromShed_49 : decode cX6_takeFromShed 49 = .ok (.iconst 0, 1) := by decide +kernel
theorem dX6_takeFromShed_50 : decode cX6_takeFromShed 50 = .ok (.iload_n 3, 1) := by decide +kernel
theorem dX6_takeFromShed_51 : decode cX6_takeFromShed 51 = .ok (.aload_n 2, 1) := by decide +kernel
theorem dX6_takeFromShed_52 : decode cX6_takeFromShed 52 = .ok (.getfield 152, 3) := by decide +kernel
theorem dX6_takeFromShed_55 : decode cX6_takeFromShed 55 = .ok (.aload_n 2, 1) := by decide +kernel
theorem dX6_takeFromShed_56 : decode cX6_takeFromShed 56 = .ok (.getfield 284, 3) := by decide +kernel
theorem dX6_takeFromShed_59 : decode cX6_takeFromShed 59 = .ok (.isub, 1) := by decide +kernel
theorem dX6_takeFromShed_60 : decode cX6_takeFromShed 60 = .ok (.isub, 1) := by decide +kernel
theorem dX6_takeFromShed_61 : decode cX6_takeFromShed 61 = .ok (.invokestatic 158, 3) := by decide +kernel
theorem dX6_takeFromShed_64 : decode cX6_takeFromShed 64 = .ok (.istore 4, 2) := by decide +kernel
theorem dX6_takeFromShed_66 : decode cX6_takeFromShed 66 = .ok (.aload_n 2, 1) := by decide +kernel
theorem dX6_takeFromShed_67 : decode cX6_takeFromShed 67 = .ok (.getfield 278, 3) := by decide +kernel
theorem dX6_takeFromShed_70 : decode cX6_takeFromShed 70 = .ok (.iload_n 3, 1) := by decide +kernel
theorem dX6_takeFromShed_71 : decode cX6_takeFromShed 71 = .ok (.iload 4, 2) := by decide +kernel
theorem dX6_takeFromShed_73 : decode cX6_takeFromShed 73 = .ok (.iadd, 1) := by decide +kernel
theorem dX6_takeFromShed_74 : decode cX6_takeFromShed 74 = .ok (.imul, 1) := by decide +kernel
theorem dX6_takeFromShed_75 : decode cX6_takeFromShed 75 = .ok (.istore 5, 2) := by decide +kernel
theorem dX6_takeFromShed_77 : decode cX6_takeFromShed 77 = .ok (.aload_n 0, 1) := by decide +kernel
theorem dX6_takeFromShed_78 : decode cX6_takeFromShed 78 = .ok (.getfield 18, 3) := by decide +kernel
theorem dX6_takeFromShed_81 : decode cX6_takeFromShed 81 = .ok (.iload 5, 2) := by decide +kernel
theorem dX6_takeFromShed_83 : decode cX6_takeFromShed 83 = .ok (.iconst 3, 1) := by decide +kernel
theorem dX6_takeFromShed_84 : decode cX6_takeFromShed 84 = .ok (.iconst (-1), 1) := by decide +kernel
theorem dX6_takeFromShed_85 : decode cX6_takeFromShed 85 = .ok (.invokevirtual 232, 3) := by decide +kernel
theorem dX6_takeFromShed_88 : decode cX6_takeFromShed 88 = .ok (.aload_n 2, 1) := by decide +kernel
theorem dX6_takeFromShed_89 : decode cX6_takeFromShed 89 = .ok (.aload_n 0, 1) := by decide +kernel
theorem dX6_takeFromShed_90 : decode cX6_takeFromShed 90 = .ok (.getfield 49, 3) := by decide +kernel
theorem dX6_takeFromShed_93 : decode cX6_takeFromShed 93 = .ok (.invokevirtual 167, 3) := by decide +kernel
theorem dX6_takeFromShed_96 : decode cX6_takeFromShed 96 = .ok (.iload 5, 2) := by decide +kernel
theorem dX6_takeFromShed_98 : decode cX6_takeFromShed 98 = .ok (.ireturn, 1) := by decide +kernel
theorem dX6_letDaysPass_0 : decode cX6_letDaysPass 0 = .ok (.iload_n 1, 1) := by decide +kernel
theorem dX6_letDaysPass_1 : decode cX6_letDaysPass 1 = .ok (.iconst 1, 1) := by decide +kernel
theorem dX6_letDaysPass_2 : decode cX6_letDaysPass 2 = .ok (.if_icmp .lt 9, 3) := by decide +kernel
theorem dX6_letDaysPass_5 : decode cX6_letDaysPass 5 = .ok (.iload_n 1, 1) := by decide +kernel
theorem dX6_letDaysPass_6 : decode cX6_letDaysPass 6 = .ok (.bipush 60, 2) := by decide +kernel
theorem dX6_letDaysPass_8 : decode cX6_letDaysPass 8 = .ok (.if_icmp .le 6, 3) := by decide +kernel
theorem dX6_letDaysPass_11 : decode cX6_letDaysPass 11 = .ok (.ldc 58, 2) := by decide +kernel
theorem dX6_letDaysPass_13 : decode cX6_letDaysPass 13 = .ok (.ireturn, 1) := by decide +kernel
theorem dX6_letDaysPass_14 : decode cX6_letDaysPass 14 = .ok (.aload_n 0, 1) := by decide +kernel
theorem dX6_letDaysPass_15 : decode cX6_letDaysPass 15 = .ok (.getfield 49, 3) := by decide +kernel
theorem dX6_letDaysPass_18 : decode cX6_letDaysPass 18 = .ok (.iload_n 1, 1) := by decide +kernel
theorem dX6_letDaysPass_19 : decode cX6_letDaysPass 19 = .ok (.iadd, 1) := by decide +kernel
theorem dX6_letDaysPass_20 : decode cX6_letDaysPass 20 = .ok (.sipush 3000, 3) := by decide +kernel
theorem dX6_letDaysPass_23 : decode cX6_letDaysPass 23 = .ok (.if_icmp .le 6, 3) := by decide +kernel
theorem dX6_letDaysPass_26 : decode cX6_letDaysPass 26 = .ok (.ldc 116, 2) := by decide +kernel
theorem dX6_letDaysPass_28 : decode cX6_letDaysPass 28 = .ok (.ireturn, 1) := by decide +kernel
theorem dX6_letDaysPass_29 : decode cX6_letDaysPass 29 = .ok (.iconst 0, 1) := by decide +kernel
theorem dX6_letDaysPass_30 : decode cX6_letDaysPass 30 = .ok (.istore_n 2, 1) := by decide +kernel
theorem dX6_letDaysPass_31 : decode cX6_letDaysPass 31 = .ok (.iload_n 2, 1) := by decide +kernel
theorem dX6_letDaysPass_32 : decode cX6_letDaysPass 32 = .ok (.iload_n 1, 1) := by decide +kernel
theorem dX6_letDaysPass_33 : decode cX6_letDaysPass 33 = .ok (.if_icmp .ge 13, 3) := by decide +kernel
theorem dX6_letDaysPass_36 : decode cX6_letDaysPass 36 = .ok (.aload_n 0, 1) := by decide +kernel
theorem dX6_letDaysPass_37 : decode cX6_letDaysPass 37 = .ok (.invokevirtual 287, 3) := by decide +kernel
theorem dX6_letDaysPass_40 : decode cX6_letDaysPass 40 = .ok (.iinc 2 1, 3) := by decide +kernel
theorem dX6_letDaysPass_43 : decode cX6_letDaysPass 43 = .ok (.goto (-12), 3) := by decide +kernel
theorem dX6_letDaysPass_46 : decode cX6_letDaysPass 46 = .ok (.aload_n 0, 1) := by decide +kernel
theorem dX6_letDaysPass_47 : decode cX6_letDaysPass 47 = .ok (.getfield 49, 3) := by decide +kernel
theorem dX6_letDaysPass_50 : decode cX6_letDaysPass 50 = .ok (.ireturn, 1) := by decide +kernel
theorem dX6_beginDay_0 : decode cX6_beginDay 0 = .ok (.aload_n 0, 1) := by decide +kernel
theorem dX6_beginDay_1 : decode cX6_beginDay 1 = .ok (.dup, 1) := by decide +kernel
theorem dX6_beginDay_2 : decode cX6_beginDay 2 = .ok (.getfield 49, 3) := by decide +kernel
theorem dX6_beginDay_5 : decode cX6_beginDay 5 = .ok (.iconst 1, 1) := by decide +kernel
theorem dX6_beginDay_6 : decode cX6_beginDay 6 = .ok (.iadd, 1) := by decide +kernel
theorem dX6_beginDay_7 : decode cX6_beginDay 7 = .ok (.putfield 49, 3) := by decide +kernel
theorem dX6_beginDay_10 : decode cX6_beginDay 10 = .ok (.aload_n 0, 1) := by decide +kernel
theorem dX6_beginDay_11 : decode cX6_beginDay 11 = .ok (.getfield 49, 3) := by decide +kernel
theorem dX6_beginDay_14 : decode cX6_beginDay 14 = .ok (.bipush 30, 2) := by decide +kernel
theorem dX6_beginDay_16 : decode cX6_beginDay 16 = .ok (.irem, 1) := by decide +kernel
theorem dX6_beginDay_17 : decode cX6_beginDay 17 = .ok (.ifCond .ne 17, 3) := by decide +kernel
theorem dX6_beginDay_20 : decode cX6_beginDay 20 = .ok (.aload_n 0, 1) := by decide +kernel
theorem dX6_beginDay_21 : decode cX6_beginDay 21 = .ok (.getfield 18, 3) := by decide +kernel
theorem dX6_beginDay_24 : decode cX6_beginDay 24 = .ok (.iconst 0, 1) := by decide +kernel
theorem dX6_beginDay_25 : decode cX6_beginDay 25 = .ok (.aload_n 0, 1) := by decide +kernel
theorem dX6_beginDay_26 : decode cX6_beginDay 26 = .ok (.getfield 9, 3) := by decide +kernel
theorem dX6_beginDay_29 : decode cX6_beginDay 29 = .ok (.iconst 0, 1) := by decide +kernel
theorem dX6_beginDay_30 : decode cX6_beginDay 30 = .ok (.iaload, 1) := by decide +kernel
theorem dX6_beginDay_31 : decode cX6_beginDay 31 = .ok (.invokevirtual 290, 3) := by decide +kernel
theorem dX6_beginDay_34 : decode cX6_beginDay 34 = .ok (.iconst 0, 1) := by decide +kernel
theorem dX6_beginDay_35 : decode cX6_beginDay 35 = .ok (.istore_n 1, 1) := by decide +kernel
theorem dX6_beginDay_36 : decode cX6_beginDay 36 = .ok (.iload_n 1, 1) := by decide +kernel
theorem dX6_beginDay_37 : decode cX6_beginDay 37 = .ok (.bipush 20, 2) := by decide +kernel
theorem dX6_beginDay_39 : decode cX6_beginDay 39 = .ok (.if_icmp .ge 41, 3) := by decide +kernel
theorem dX6_beginDay_42 : decode cX6_beginDay 42 = .ok (.aload_n 0, 1) := by decide +kernel
theorem dX6_beginDay_43 : decode cX6_beginDay 43 = .ok (.getfield 49, 3) := by decide +kernel
theorem dX6_beginDay_46 : decode cX6_beginDay 46 = .ok (.aload_n 0, 1) := by decide +kernel
theorem dX6_beginDay_47 : decode cX6_beginDay 47 = .ok (.getfield 24, 3) := by decide +kernel
theorem dX6_beginDay_50 : decode cX6_beginDay 50 = .ok (.iload_n 1, 1) := by decide +kernel
theorem dX6_beginDay_51 : decode cX6_beginDay 51 = .ok (.aaload, 1) := by decide +kernel
theorem dX6_beginDay_52 : decode cX6_beginDay 52 = .ok (.getfield 247, 3) := by decide +kernel
theorem dX6_beginDay_55 : decode cX6_beginDay 55 = .ok (.getfield 258, 3) := by decide +kernel
theorem dX6_beginDay_58 : decode cX6_beginDay 58 = .ok (.if_icmp .le 16, 3) := by decide +kernel
theorem dX6_beginDay_61 : decode cX6_beginDay 61 = .ok (.aload_n 0, 1) := by decide +kernel
theorem dX6_beginDay_62 : decode cX6_beginDay 62 = .ok (.getfield 24, 3) := by decide +kernel
theorem dX6_beginDay_65 : decode cX6_beginDay 65 = .ok (.iload_n 1, 1) := by decide +kernel
theorem dX6_beginDay_66 : decode cX6_beginDay 66 = .ok (.aaload, 1) := by decide +kernel
theorem dX6_beginDay_67 : decode cX6_beginDay 67 = .ok (.getfield 247, 3) := by decide +kernel
theorem dX6_beginDay_70 : decode cX6_beginDay 70 = .ok (.iconst 0, 1) := by decide +kernel
theorem dX6_beginDay_71 : decode cX6_beginDay 71 = .ok (.putfield 251, 3) := by decide +kernel
theorem dX6_beginDay_74 : decode cX6_beginDay 74 = .ok (.iinc 1 1, 3) := by decide +kernel
theorem dX6_beginDay_77 : decode cX6_beginDay 77 = .ok (.goto (-41), 3) := by decide +kernel
theorem dX6_beginDay_80 : decode cX6_beginDay 80 = .ok (.return_, 1) := by decide +kernel
theorem dX6_tellCount_0 : decode cX6_tellCount 0 = .ok (.iload_n 1, 1) := by decide +kernel
theorem dX6_tellCount_1 : decode cX6_tellCount 1 = .ok (.ifCond .lt 17, 3) := by decide +kernel
theorem dX6_tellCount_4 : decode cX6_tellCount 4 = .ok (.iload_n 1, 1) := by decide +kernel
theorem dX6_tellCount_5 : decode cX6_tellCount 5 = .ok (.iconst 2, 1) := by decide +kernel
theorem dX6_tellCount_6 : decode cX6_tellCount 6 = .ok (.if_icmp .gt 12, 3) := by decide +kernel
theorem dX6_tellCount_9 : decode cX6_tellCount 9 = .ok (.aload_n 0, 1) := by decide +kernel
theorem dX6_tellCount_10 : decode cX6_tellCount 10 = .ok (.getfield 18, 3) := by decide +kernel
theorem dX6_tellCount_13 : decode cX6_tellCount 13 = .ok (.iload_n 1, 1) := by decide +kernel
theorem dX6_tellCount_14 : decode cX6_tellCount 14 = .ok (.invokevirtual 293, 3) := by decide +kernel
theorem dX6_tellCount_17 : decode cX6_tellCount 17 = .ok (.ireturn, 1) := by decide +kernel
theorem dX6_tellCount_18 : decode cX6_tellCount 18 = .ok (.iload_n 1, 1) := by decide +kernel
theorem dX6_tellCount_19 : decode cX6_tellCount 19 = .ok (.iconst 3, 1) := by decide +kernel
theorem dX6_tellCount_20 : decode cX6_tellCount 20 = .ok (.if_icmp .lt 17, 3) := by decide +kernel
theorem dX6_tellCount_23 : decode cX6_tellCount 23 = .ok (.iload_n 1, 1) := by decide +kernel
theorem dX6_tellCount_24 : decode cX6_tellCount 24 = .ok (.bipush 8, 2) := by decide +kernel
theorem dX6_tellCount_26 : decode cX6_tellCount 26 = .ok (.if_icmp .ge 11, 3) := by decide +kernel
theorem dX6_tellCount_29 : decode cX6_tellCount 29 = .ok (.aload_n 0, 1) := by decide +kernel
theorem dX6_tellCount_30 : decode cX6_tellCount 30 = .ok (.iload_n 1, 1) := by decide +kernel
theorem dX6_tellCount_31 : decode cX6_tellCount 31 = .ok (.iconst 3, 1) := by decide +kernel
theorem dX6_tellCount_32 : decode cX6_tellCount 32 = .ok (.isub, 1) := by decide +kernel
theorem dX6_tellCount_33 : decode cX6_tellCount 33 = .ok (.invokevirtual 296, 3) := by decide +kernel
theorem dX6_tellCount_36 : decode cX6_tellCount 36 = .ok (.ireturn, 1) := by decide +kernel
theorem dX6_tellCount_37 : decode cX6_tellCount 37 = .ok (.iload_n 1, 1) := by decide +kernel
theorem dX6_tellCount_38 : decode cX6_tellCount 38 = .ok (.bipush 8, 2) := by decide +kernel
theorem dX6_tellCount_40 : decode cX6_tellCount 40 = .ok (.if_icmp .ne 8, 3) := by decide +kernel
theorem dX6_tellCount_43 : decode cX6_tellCount 43 = .ok (.aload_n 0, 1) := by decide +kernel
theorem dX6_tellCount_44 : decode cX6_tellCount 44 = .ok (.invokevirtual 299, 3) := by decide +kernel
theorem dX6_tellCount_47 : decode cX6_tellCount 47 = .ok (.ireturn, 1) := by decide +kernel
theorem dX6_tellCount_48 : decode cX6_tellCount 48 = .ok (.iload_n 1, 1) := by decide +kernel
theorem dX6_tellCount_49 : decode cX6_tellCount 49 = .ok (.bipush 9, 2) := by decide +kernel
theorem dX6_tellCount_51 : decode cX6_tellCount 51 = .ok (.if_icmp .ne 8, 3) := by decide +kernel
theorem dX6_tellCount_54 : decode cX6_tellCount 54 = .ok (.aload_n 0, 1) := by decide +kernel
theorem dX6_tellCount_55 : decode cX6_tellCount 55 = .ok (.getfield 49, 3) := by decide +kernel
theorem dX6_tellCount_58 : decode cX6_tellCount 58 = .ok (.ireturn, 1) := by decide +kernel
theorem dX6_tellCount_59 : decode cX6_tellCount 59 = .ok (.iload_n 1, 1) := by decide +kernel
theorem dX6_tellCount_60 : decode cX6_tellCount 60 = .ok (.bipush 20, 2) := by decide +kernel
theorem dX6_tellCount_62 : decode cX6_tellCount 62 = .ok (.if_icmp .lt 21, 3) := by decide +kernel
theorem dX6_tellCount_65 : decode cX6_tellCount 65 = .ok (.iload_n 1, 1) := by decide +kernel
theorem dX6_tellCount_66 : decode cX6_tellCount 66 = .ok (.bipush 27, 2) := by decide +kernel
theorem dX6_tellCount_68 : decode cX6_tellCount 68 = .ok (.if_icmp .ge 15, 3) := by decide +kernel
theorem dX6_tellCount_71 : decode cX6_tellCount 71 = .ok (.aload_n 0, 1) := by decide +kernel
theorem dX6_tellCount_72 : decode cX6_tellCount 72 = .ok (.getfield 9, 3) := by decide +kernel
theorem dX6_tellCount_75 : decode cX6_tellCount 75 = .ok (.iload_n 1, 1) := by decide +kernel
theorem dX6_tellCount_76 : decode cX6_tellCount 76 = .ok (.bipush 20, 2) := by decide +kernel
theorem dX6_tellCount_78 : decode cX6_tellCount 78 = .ok (.isub, 1) := by decide +kernel
theorem dX6_tellCount_79 : decode cX6_tellCount 79 = .ok (.iaload, 1) := by decide +kernel
theorem dX6_tellCount_80 : decode cX6_tellCount 80 = .ok (.goto 5, 3) := by decide +kernel
theorem dX6_tellCount_83 : decode cX6_tellCount 83 = .ok (.ldc 58, 2) := by decide +kernel
theorem dX6_tellCount_85 : decode cX6_tellCount 85 = .ok (.ireturn, 1) := by decide +kernel
theorem dX6_countAtPlace_0 : decode cX6_countAtPlace 0 = .ok (.iconst 0, 1) := by decide +kernel
theorem dX6_countAtPlace_1 : decode cX6_countAtPlace 1 = .ok (.istore_n 2, 1) := by decide +kernel
theorem dX6_countAtPlace_2 : decode cX6_countAtPlace 2 = .ok (.iconst 0, 1) := by decide +kernel
theorem dX6_countAtPlace_3 : decode cX6_countAtPlace 3 = .ok (.istore_n 3, 1) := by decide +kernel
theorem dX6_countAtPlace_4 : decode cX6_countAtPlace 4 = .ok (.iload_n 3, 1) := by decide +kernel
theorem dX6_countAtPlace_5 : decode cX6_countAtPlace 5 = .ok (.aload_n 0, 1) := by decide +kernel
theorem dX6_countAtPlace_6 : decode cX6_countAtPlace 6 = .ok (.getfield 45, 3) := by decide +kernel
theorem dX6_countAtPlace_9 : decode cX6_countAtPlace 9 = .ok (.if_icmp .ge 33, 3) := by decide +kernel
theorem dX6_countAtPlace_12 : decode cX6_countAtPlace 12 = .ok (.aload_n 0, 1) := by decide +kernel
theorem dX6_countAtPlace_13 : decode cX6_countAtPlace 13 = .ok (.iload_n 3, 1) := by decide +kernel
theorem dX6_countAtPlace_14 : decode cX6_countAtPlace 14 = .ok (.invokevirtual 88, 3) := by decide +kernel
theorem dX6_countAtPlace_17 : decode cX6_countAtPlace 17 = .ok (.ifCond .eq 19, 3) := by decide +kernel
theorem dX6_countAtPlace_20 : decode cX6_countAtPlace 20 = .ok (.aload_n 0, 1) := by decide +kernel
theorem dX6_countAtPlace_21 : decode cX6_countAtPlace 21 = .ok (.getfield 24, 3) := by decide +kernel
theorem dX6_countAtPlace_24 : decode cX6_countAtPlace 24 = .ok (.iload_n 3, 1) := by decide +kernel
theorem dX6_countAtPlace_25 : decode cX6_countAtPlace 25 = .ok (.aaload, 1) := by decide +kernel
theorem dX6_countAtPlace_26 : decode cX6_countAtPlace 26 = .ok (.getfield 94, 3) := by decide +kernel
theorem dX6_countAtPlace_29 : decode cX6_countAtPlace 29 = .ok (.iload_n 1, 1) := by decide +kernel
theorem dX6_countAtPlace_30 : decode cX6_countAtPlace 30 = .ok (.if_icmp .ne 6, 3) := by decide +kernel
theorem dX6_countAtPlace_33 : decode cX6_countAtPlace 33 = .ok (.iinc 2 1, 3) := by decide +kernel
theorem dX6_countAtPlace_36 : decode cX6_countAtPlace 36 = .ok (.iinc 3 1, 3) := by decide +kernel
theorem dX6_countAtPlace_39 : decode cX6_countAtPlace 39 = .ok (.goto (-35), 3) := by decide +kernel
theorem dX6_countAtPlace_42 : decode cX6_countAtPlace 42 = .ok (.iload_n 2, 1) := by decide +kernel
theorem dX6_countAtPlace_43 : decode cX6_countAtPlace 43 = .ok (.ireturn, 1) := by decide +kernel
theorem dX6_countProposals_0 : decode cX6_countProposals 0 = .ok (.iconst 0, 1) := by decide +kernel
theorem dX6_countProposals_1 : decode cX6_countProposals 1 = .ok (.istore_n 1, 1) := by decide +kernel
theorem dX6_countProposals_2 : decode cX6_countProposals 2 = .ok (.iconst 0, 1) := by decide +kernel
theorem dX6_countProposals_3 : decode cX6_countProposals 3 = .ok (.istore_n 2, 1) := by decide +kernel
theorem dX6_countProposals_4 : decode cX6_countProposals 4 = .ok (.iload_n 2, 1) := by decide +kernel
theorem dX6_countProposals_5 : decode cX6_countProposals 5 = .ok (.aload_n 0, 1) := by decide +kernel
theorem dX6_countProposals_6 : decode cX6_countProposals 6 = .ok (.getfield 45, 3) := by decide +kernel
theorem dX6_countProposals_9 : decode cX6_countProposals 9 = .ok (.if_icmp .ge 35, 3) := by decide +kernel
theorem dX6_countProposals_12 : decode cX6_countProposals 12 = .ok (.aload_n 0, 1) := by decide +kernel
theorem dX6_countProposals_13 : decode cX6_countProposals 13 = .ok (.iload_n 2, 1) := by decide +kernel
theorem dX6_countProposals_14 : decode cX6_countProposals 14 = .ok (.invokevirtual 88, 3) := by decide +kernel
theorem dX6_countProposals_17 : decode cX6_countProposals 17 = .ok (.ifCond .eq 21, 3) := by decide +kernel
theorem dX6_countProposals_20 : decode cX6_countProposals 20 = .ok (.aload_n 0, 1) := by decide +kernel
theorem dX6_countProposals_21 : decode cX6_countProposals 21 = .ok (.getfield 24, 3) := by decide +kernel
theorem dX6_countProposals_24 : decode cX6_countProposals 24 = .ok (.iload_n 2, 1) := by decide +kernel
theorem dX6_countProposals_25 : decode cX6_countProposals 25 = .ok (.aaload, 1) := by decide +kernel
theorem dX6_countProposals_26 : decode cX6_countProposals 26 = .ok (.getfield 247, 3) := by decide +kernel
theorem dX6_countProposals_29 : decode cX6_countProposals 29 = .ok (.getfield 251, 3) := by decide +kernel
theorem dX6_countProposals_32 : decode cX6_countProposals 32 = .ok (.ifCond .eq 6, 3) := by decide +kernel
theorem dX6_countProposals_35 : decode cX6_countProposals 35 = .ok (.iinc 1 1, 3) := by decide +kernel
theorem dX6_countProposals_38 : decode cX6_countProposals 38 = .ok (.iinc 2 1, 3) := by decide +kernel
theorem dX6_countProposals_41 : decode cX6_countProposals 41 = .ok (.goto (-37), 3) := by decide +kernel
theorem dX6_countProposals_44 : decode cX6_countProposals 44 = .ok (.iload_n 1, 1) := by decide +kernel
theorem dX6_countProposals_45 : decode cX6_countProposals 45 = .ok (.ireturn, 1) := by decide +kernel
theorem dX7_init_0 : decode cX7_init 0 = .ok (.aload_n 0, 1) := by decide +kernel
theorem dX7_init_1 : decode cX7_init 1 = .ok (.invokespecial 3, 3) := by decide +kernel
theorem dX7_init_4 : decode cX7_init 4 = .ok (.aload_n 0, 1) := by decide +kernel
theorem dX7_init_5 : decode cX7_init 5 = .ok (.new 9, 3) := by decide +kernel
theorem dX7_init_8 : decode cX7_init 8 = .ok (.dup, 1) := by decide +kernel
theorem dX7_init_9 : decode cX7_init 9 = .ok (.invokespecial 11, 3) := by decide +kernel
theorem dX7_init_12 : decode cX7_init 12 = .ok (.putfield 12, 3) := by decide +kernel
theorem dX7_init_15 : decode cX7_init 15 = .ok (.aload_n 0, 1) := by decide +kernel
theorem dX7_init_16 : decode cX7_init 16 = .ok (.new 18, 3) := by decide +kernel
theorem dX7_init_19 : decode cX7_init 19 = .ok (.dup, 1) := by decide +kernel
theorem dX7_init_20 : decode cX7_init 20 = .ok (.invokespecial 20, 3) := by decide +kernel
theorem dX7_init_23 : decode cX7_init 23 = .ok (.putfield 21, 3) := by decide +kernel
theorem dX7_init_26 : decode cX7_init 26 = .ok (.return_, 1) := by decide +kernel
theorem dX7_copyFrom_0 : decode cX7_copyFrom 0 = .ok (.aload_n 0, 1) := by decide +kernel
theorem dX7_copyFrom_1 : decode cX7_copyFrom 1 = .ok (.aload_n 1, 1) := by decide +kernel
theorem dX7_copyFrom_2 : decode cX7_copyFrom 2 = .ok (.getfield 25, 3) := by decide +kernel
theorem dX7_copyFrom_5 : decode cX7_copyFrom 5 = .ok (.putfield 25, 3) := by decide +kernel
theorem dX7_copyFrom_8 : decode cX7_copyFrom 8 = .ok (.aload_n 0, 1) := by decide +kernel
theorem dX7_copyFrom_9 : decode cX7_copyFrom 9 = .ok (.aload_n 1, 1) := by decide +kernel
theorem dX7_copyFrom_10 : decode cX7_copyFrom 10 = .ok (.getfield 29, 3) := by decide +kernel
theorem dX7_copyFrom_13 : decode cX7_copyFrom 13 = .ok (.putfield 29, 3) := by decide +kernel
theorem dX7_copyFrom_16 : decode cX7_copyFrom 16 = .ok (.aload_n 0, 1) := by decide +kernel
theorem dX7_copyFrom_17 : decode cX7_copyFrom 17 = .ok (.aload_n 1, 1) := by decide +kernel
theorem dX7_copyFrom_18 : decode cX7_copyFrom 18 = .ok (.getfield 32, 3) := by decide +kernel
theorem dX7_copyFrom_21 : decode cX7_copyFrom 21 = .ok (.putfield 32, 3) := by decide +kernel
theorem dX7_copyFrom_24 : decode cX7_copyFrom 24 = .ok (.aload_n 0, 1) := by decide +kernel
theorem dX7_copyFrom_25 : decode cX7_copyFrom 25 = .ok (.aload_n 1, 1) := by decide +kernel
theorem dX7_copyFrom_26 : decode cX7_copyFrom 26 = .ok (.getfield 35, 3) := by decide +kernel
theorem dX7_copyFrom_29 : decode cX7_copyFrom 29 = .ok (.putfield 35, 3) := by decide +kernel
theorem dX7_copyFrom_32 : decode cX7_copyFrom 32 = .ok (.aload_n 0, 1) := by decide +kernel
theorem dX7_copyFrom_33 : decode cX7_copyFrom 33 = .ok (.aload_n 1, 1) := by decide +kernel
theorem dX7_copyFrom_34 : decode cX7_copyFrom 34 = .ok (.getfield 39, 3) := by decide +kernel
theorem dX7_copyFrom_37 : decode cX7_copyFrom 37 = .ok (.putfield 39, 3) := by decide +kernel
theorem dX7_copyFrom_40 : decode cX7_copyFrom 40 = .ok (.aload_n 0, 1) := by decide +kernel
theorem dX7_copyFrom_41 : decode cX7_copyFrom 41 = .ok (.aload_n 1, 1) := by decide +kernel
theorem dX7_copyFrom_42 : decode cX7_copyFrom 42 = .ok (.getfield 42, 3) := by decide +kernel
theorem dX7_copyFrom_45 : decode cX7_copyFrom 45 = .ok (.putfield 42, 3) := by decide +kernel
theorem dX7_copyFrom_48 : decode cX7_copyFrom 48 = .ok (.aload_n 0, 1) := by decide +kernel
theorem dX7_copyFrom_49 : decode cX7_copyFrom 49 = .ok (.aload_n 1, 1) := by decide +kernel
theorem dX7_copyFrom_50 : decode cX7_copyFrom 50 = .ok (.getfield 45, 3) := by decide +kernel
theorem dX7_copyFrom_53 : decode cX7_copyFrom 53 = .ok (.putfield 45, 3) := by decide +kernel
theorem dX7_copyFrom_56 : decode cX7_copyFrom 56 = .ok (.aload_n 0, 1) := by decide +kernel
theorem dX7_copyFrom_57 : decode cX7_copyFrom 57 = .ok (.aload_n 1, 1) := by decide +kernel
theorem dX7_copyFrom_58 : decode cX7_copyFrom 58 = .ok (.getfield 48, 3) := by decide +kernel
theorem dX7_copyFrom_61 : decode cX7_copyFrom 61 = .ok (.putfield 48, 3) := by decide +kernel
theorem dX7_copyFrom_64 : decode cX7_copyFrom 64 = .ok (.aload_n 0, 1) := by decide +kernel
theorem dX7_copyFrom_65 : decode cX7_copyFrom 65 = .ok (.aload_n 1, 1) := by decide +kernel
theorem dX7_copyFrom_66 : decode cX7_copyFrom 66 = .ok (.getfield 51, 3) := by decide +kernel
theorem dX7_copyFrom_69 : decode cX7_copyFrom 69 = .ok (.putfield 51, 3) := by decide +kernel
theorem dX7_copyFrom_72 : decode cX7_copyFrom 72 = .ok (.aload_n 0, 1) := by decide +kernel
theorem dX7_copyFrom_73 : decode cX7_copyFrom 73 = .ok (.aload_n 1, 1) := by decide +kernel
theorem dX7_copyFrom_74 : decode cX7_copyFrom 74 = .ok (.getfield 54, 3) := by decide +kernel
theorem dX7_copyFrom_77 : decode cX7_copyFrom 77 = .ok (.putfield 54, 3) := by decide +kernel
theorem dX7_copyFrom_80 : decode cX7_copyFrom 80 = .ok (.aload_n 0, 1) := by decide +kernel
theorem dX7_copyFrom_81 : decode cX7_copyFrom 81 = .ok (.aload_n 1, 1) := by decide +kernel
theorem dX7_copyFrom_82 : decode cX7_copyFrom 82 = .ok (.getfield 57, 3) := by decide +kernel
theorem dX7_copyFrom_85 : decode cX7_copyFrom 85 = .ok (.putfield 57, 3) := by decide +kernel
theorem dX7_copyFrom_88 : decode cX7_copyFrom 88 = .ok (.aload_n 0, 1) := by decide +kernel
theorem dX7_copyFrom_89 : decode cX7_copyFrom 89 = .ok (.aload_n 1, 1) := by decide +kernel
theorem dX7_copyFrom_90 : decode cX7_copyFrom 90 = .ok (.getfield 60, 3) := by decide +kernel
theorem dX7_copyFrom_93 : decode cX7_copyFrom 93 = .ok (.putfield 60, 3) := by decide +kernel
theorem dX7_copyFrom_96 : decode cX7_copyFrom 96 = .ok (.aload_n 0, 1) := by decide +kernel
theorem dX7_copyFrom_97 : decode cX7_copyFrom 97 = .ok (.getfield 12, 3) := by decide +kernel
theorem dX7_copyFrom_100 : decode cX7_copyFrom 100 = .ok (.aload_n 1, 1) := by decide +kernel
theorem dX7_copyFrom_101 : decode cX7_copyFrom 101 = .ok (.getfield 12, 3) := by decide +kernel
theorem dX7_copyFrom_104 : decode cX7_copyFrom 104 = .ok (.invokevirtual 63, 3) := by decide +kernel
theorem dX7_copyFrom_107 : decode cX7_copyFrom 107 = .ok (.aload_n 0, 1) := by decide +kernel
theorem dX7_copyFrom_108 : decode cX7_copyFrom 108 = .ok (.getfield 21, 3) := by decide +kernel
theorem dX7_copyFrom_111 : decode cX7_copyFrom 111 = .ok (.aload_n 1, 1) := by decide +kernel
theorem dX7_copyFrom_112 : decode cX7_copyFrom 112 = .ok (.getfield 21, 3) := by decide +kernel
theorem dX7_copyFrom_115 : decode cX7_copyFrom 115 = .ok (.invokevirtual 67, 3) := by decide +kernel
theorem dX7_copyFrom_118 : decode cX7_copyFrom 118 = .ok (.return_, 1) := by decide +kernel
theorem dX7_begin_0 : decode cX7_begin 0 = .ok (.aload_n 0, 1) := by decide +kernel
theorem dX7_begin_1 : decode cX7_begin 1 = .ok (.iload_n 1, 1) := by decide +kernel
theorem dX7_begin_2 : decode cX7_begin 2 = .ok (.putfield 25, 3) := by decide +kernel
theorem dX7_begin_5 : decode cX7_begin 5 = .ok (.aload_n 0, 1) := by decide +kernel
theorem dX7_begin_6 : decode cX7_begin 6 = .ok (.iload_n 2, 1) := by decide +kernel
theorem dX7_begin_7 : decode cX7_begin 7 = .ok (.putfield 29, 3) := by decide +kernel
theorem dX7_begin_10 : decode cX7_begin 10 = .ok (.aload_n 0, 1) := by decide +kernel
theorem dX7_begin_11 : decode cX7_begin 11 = .ok (.iload_n 3, 1) := by decide +kernel
theorem dX7_begin_12 : decode cX7_begin 12 = .ok (.putfield 32, 3) := by decide +kernel
theorem dX7_begin_15 : decode cX7_begin 15 = .ok (.aload_n 0, 1) := by decide +kernel
theorem dX7_begin_16 : decode cX7_begin 16 = .ok (.fconst 1, 1) := by decide +kernel
theorem dX7_begin_17 : decode cX7_begin 17 = .ok (.putfield 35, 3) := by decide +kernel
theorem dX7_begin_20 : decode cX7_begin 20 = .ok (.aload_n 0, 1) := by decide +kernel
theorem dX7_begin_21 : decode cX7_begin 21 = .ok (.iconst 0, 1) := by decide +kernel
theorem dX7_begin_22 : decode cX7_begin 22 = .ok (.putfield 39, 3) := by decide +kernel
theorem dX7_begin_25 : decode cX7_begin 25 = .ok (.aload_n 0, 1) := by decide +kernel
theorem dX7_begin_26 : decode cX7_begin 26 = .ok (.iconst 0, 1) := by decide +kernel
theorem dX7_begin_27 : decode cX7_begin 27 = .ok (.putfield 54, 3) := by decide +kernel
theorem dX7_begin_30 : decode cX7_begin 30 = .ok (.aload_n 0, 1) := by decide +kernel
theorem dX7_begin_31 : decode cX7_begin 31 = .ok (.iconst (-1), 1) := by decide +kernel
theorem dX7_begin_32 : decode cX7_begin 32 = .ok (.putfield 57, 3) := by decide +kernel
theorem dX7_begin_35 : decode cX7_begin 35 = .ok (.aload_n 0, 1) := by decide +kernel
theorem dX7_begin_36 : decode cX7_begin 36 = .ok (.getfield 21, 3) := by decide +kernel
theorem dX7_begin_39 : decode cX7_begin 39 = .ok (.iconst 0, 1) := by decide +kernel
theorem dX7_begin_40 : decode cX7_begin 40 = .ok (.putfield 70, 3) := by decide +kernel
theorem dX7_begin_43 : decode cX7_begin 43 = .ok (.return_, 1) := by decide +kernel
theorem dX7_isCutterInShed_0 : decode cX7_isCutterInShed 0 = .ok (.aload_n 0, 1) := by decide +kernel
theorem dX7_isCutterInShed_1 : decode cX7_isCutterInShed 1 = .ok (.getfield 25, 3) := by decide +kernel
theorem dX7_isCutterInShed_4 : decode cX7_isCutterInShed 4 = .ok (.ifCond .ne 14, 3) := by decide +kernel
theorem dX7_isCutterInShed_7 : decode cX7_isCutterInShed 7 = .ok (.aload_n 0, 1) := by decide +kernel
theorem dX7_isCutterInShed_8 : decode cX7_isCutterInShed 8 = .ok (.getfield 39, 3) := by decide +kernel
theorem dX7_isCutterInShed_11 : decode cX7_isCutterInShed 11 = .ok (.ifCond .ne 7, 3) := by decide +kernel
theorem dX7_isCutterInShed_14 : decode cX7_isCutterInShed 14 = .ok (.iconst 1, 1) := by decide +kernel
theorem dX7_isCutterInShed_15 : decode cX7_isCutterInShed 15 = .ok (.goto 4, 3) := by decide +kernel
theorem dX7_isCutterInShed_18 : decode cX7_isCutterInShed 18 = .ok (.iconst 0, 1) := by decide +kernel
theorem dX7_isCutterInShed_19 : decode cX7_isCutterInShed 19 = .ok (.ireturn, 1) := by decide +kernel
theorem dX7_isOnMember_0 : decode cX7_isOnMember 0 = .ok (.aload_n 0, 1) := by decide +kernel
theorem dX7_isOnMember_1 : decode cX7_isOnMember 1 = .ok (.getfield 39, 3) := by decide +kernel
theorem dX7_isOnMember_4 : decode cX7_isOnMember 4 = .ok (.iconst 1, 1) := by decide +kernel
theorem dX7_isOnMember_5 : decode cX7_isOnMember 5 = .ok (.if_icmp .eq 11, 3) := by decide +kernel
theorem dX7_isOnMember_8 : decode cX7_isOnMember 8 = .ok (.aload_n 0, 1) := by decide +kernel
theorem dX7_isOnMember_9 : decode cX7_isOnMember 9 = .ok (.getfield 39, 3) := by decide +kernel
theorem dX7_isOnMember_12 : decode cX7_isOnMember 12 = .ok (.iconst 2, 1) := by decide +kernel
theorem dX7_isOnMember_13 : decode cX7_isOnMember 13 = .ok (.if_icmp .ne 15, 3) := by decide +kernel
theorem dX7_isOnMember_16 : decode cX7_isOnMember 16 = .ok (.aload_n 0, 1) := by decide +kernel
theorem dX7_isOnMember_17 : decode cX7_isOnMember 17 = .ok (.getfield 42, 3) := by decide +kernel
theorem dX7_isOnMember_20 : decode cX7_isOnMember 20 = .ok (.iload_n 1, 1) := by decide +kernel
theorem dX7_isOnMember_21 : decode cX7_isOnMember 21 = .ok (.if_icmp .ne 7, 3) := by decide +kernel
theorem dX7_isOnMember_24 : decode cX7_isOnMember 24 = .ok (.iconst 1, 1) := by decide +kernel
theorem dX7_isOnMember_25 : decode cX7_isOnMember 25 = .ok (.goto 4, 3) := by decide +kernel
theorem dX7_isOnMember_28 : decode cX7_isOnMember 28 = .ok (.iconst 0, 1) := by decide +kernel
theorem dX7_isOnMember_29 : decode cX7_isOnMember 29 = .ok (.ireturn, 1) := by decide +kernel
theorem dX7_hangsOn_0 : decode cX7_hangsOn 0 = .ok (.aload_n 0, 1) := by decide +kernel
theorem dX7_hangsOn_1 : decode cX7_hangsOn 1 = .ok (.getfield 57, 3) := by decide +kernel
theorem dX7_hangsOn_4 : decode cX7_hangsOn 4 = .ok (.iload_n 1, 1) := by decide +kernel
theorem dX7_hangsOn_5 : decode cX7_hangsOn 5 = .ok (.if_icmp .ne 15, 3) := by decide +kernel
theorem dX7_hangsOn_8 : decode cX7_hangsOn 8 = .ok (.aload_n 0, 1) := by decide +kernel
theorem dX7_hangsOn_9 : decode cX7_hangsOn 9 = .ok (.getfield 60, 3) := by decide +kernel
theorem dX7_hangsOn_12 : decode cX7_hangsOn 12 = .ok (.iload_n 2, 1) := by decide +kernel
theorem dX7_hangsOn_13 : decode cX7_hangsOn 13 = .ok (.if_icmp .ne 7, 3) := by decide +kernel
theorem dX7_hangsOn_16 : decode cX7_hangsOn 16 = .ok (.iconst 1, 1) := by decide +kernel
theorem dX7_hangsOn_17 : decode cX7_hangsOn 17 = .ok (.goto 4, 3) := by decide +kernel
theorem dX7_hangsOn_20 : decode cX7_hangsOn 20 = .ok (.iconst 0, 1) := by decide +kernel
theorem dX7_hangsOn_21 : decode cX7_hangsOn 21 = .ok (.ireturn, 1) := by decide +kernel
theorem dX7_goOut_0 : decode cX7_goOut 0 = .ok (.aload_n 0, 1) := by decide +kernel
theorem dX7_goOut_1 : decode cX7_goOut 1 = .ok (.iload_n 1, 1) := by decide +kernel
theorem dX7_goOut_2 : decode cX7_goOut 2 = .ok (.putfield 39, 3) := by decide +kernel
theorem dX7_goOut_5 : decode cX7_goOut 5 = .ok (.aload_n 0, 1) := by decide +kernel
theorem dX7_goOut_6 : decode cX7_goOut 6 = .ok (.iload_n 2, 1) := by decide +kernel
theorem dX7_goOut_7 : decode cX7_goOut 7 = .ok (.putfield 42, 3) := by decide +kernel
theorem dX7_goOut_10 : decode cX7_goOut 10 = .ok (.aload_n 0, 1) := by decide +kernel
theorem dX7_goOut_11 : decode cX7_goOut 11 = .ok (.iload_n 3, 1) := by decide +kernel
theorem dX7_goOut_12 : decode cX7_goOut 12 = .ok (.putfield 45, 3) := by decide +kernel
theorem dX7_goOut_15 : decode cX7_goOut 15 = .ok (.aload_n 0, 1) := by decide +kernel
theorem dX7_goOut_16 : decode cX7_goOut 16 = .ok (.iload_n 3, 1) := by decide +kernel
theorem dX7_goOut_17 : decode cX7_goOut 17 = .ok (.iload 4, 2) := by decide +kernel
theorem dX7_goOut_19 : decode cX7_goOut 19 = .ok (.iadd, 1) := by decide +kernel
theorem dX7_goOut_20 : decode cX7_goOut 20 = .ok (.putfield 48, 3) := by decide +kernel
theorem dX7_goOut_23 : decode cX7_goOut 23 = .ok (.aload_n 0, 1) := by decide +kernel
theorem dX7_goOut_24 : decode cX7_goOut 24 = .ok (.dup, 1) := by decide +kernel
theorem dX7_goOut_25 : decode cX7_goOut 25 = .ok (.getfield 54, 3) := by decide +kernel
theorem dX7_goOut_28 : decode cX7_goOut 28 = .ok (.iconst 1, 1) := by decide +kernel
theorem dX7_goOut_29 : decode cX7_goOut 29 = .ok (.iadd, 1) := by decide +kernel
theorem dX7_goOut_30 : decode cX7_goOut 30 = .ok (.putfield 54, 3) := by decide +kernel
theorem dX7_goOut_33 : decode cX7_goOut 33 = .ok (.aload_n 0, 1) := by decide +kernel
theorem dX7_goOut_34 : decode cX7_goOut 34 = .ok (.iconst (-1), 1) := by decide +kernel
theorem dX7_goOut_35 : decode cX7_goOut 35 = .ok (.putfield 57, 3) := by decide +kernel
theorem dX7_goOut_38 : decode cX7_goOut 38 = .ok (.return_, 1) := by decide +kernel
theorem dX7_daysOut_0 : decode cX7_daysOut 0 = .ok (.iconst 1, 1) := by decide +kernel
theorem dX7_daysOut_1 : decode cX7_daysOut 1 = .ok (.iload_n 1, 1) := by decide +kernel
theorem dX7_daysOut_2 : decode cX7_daysOut 2 = .ok (.aload_n 0, 1) := by decide +kernel
theorem dX7_daysOut_3 : decode cX7_daysOut 3 = .ok (.getfield 45, 3) := by decide +kernel
theorem dX7_daysOut_6 : decode cX7_daysOut 6 = .ok (.isub, 1) := by decide +kernel
theorem dX7_daysOut_7 : decode cX7_daysOut 7 = .ok (.invokestatic 74, 3) := by decide +kernel
theorem dX7_daysOut_10 : decode cX7_daysOut 10 = .ok (.ireturn, 1) := by decide +kernel
theorem dX7_comeIn_0 : decode cX7_comeIn 0 = .ok (.aload_n 0, 1) := by decide +kernel
theorem dX7_comeIn_1 : decode cX7_comeIn 1 = .ok (.aload_n 0, 1) := by decide +kernel
theorem dX7_comeIn_2 : decode cX7_comeIn 2 = .ok (.aload_n 0, 1) := by decide +kernel
theorem dX7_comeIn_3 : decode cX7_comeIn 3 = .ok (.iload_n 1, 1) := by decide +kernel
theorem dX7_comeIn_4 : decode cX7_comeIn 4 = .ok (.invokevirtual 80, 3) := by decide +kernel
theorem dX7_comeIn_7 : decode cX7_comeIn 7 = .ok (.invokevirtual 84, 3) := by decide +kernel
theorem dX7_comeIn_10 : decode cX7_comeIn 10 = .ok (.putfield 35, 3) := by decide +kernel
theorem dX7_comeIn_13 : decode cX7_comeIn 13 = .ok (.aload_n 0, 1) := by decide +kernel
theorem dX7_comeIn_14 : decode cX7_comeIn 14 = .ok (.iconst 0, 1) := by decide +kernel
theorem dX7_comeIn_15 : decode cX7_comeIn 15 = .ok (.putfield 39, 3) := by decide +kernel
theorem dX7_comeIn_18 : decode cX7_comeIn 18 = .ok (.return_, 1) := by decide +kernel
theorem dX7_sharpnessBehind_0 : decode cX7_sharpnessBehind 0 = .ok (.bipush 100, 2) := by decide +kernel
theorem dX7_sharpnessBehind_2 : decode cX7_sharpnessBehind 2 = .ok (.aload_n 0, 1) := by decide +kernel
theorem dX7_sharpnessBehind_3 : decode cX7_sharpnessBehind 3 = .ok (.getfield 32, 3) := by decide +kernel
theorem dX7_sharpnessBehind_6 : decode cX7_sharpnessBehind 6 = .ok (.isub, 1) := by decide +kernel
theorem dX7_sharpnessBehind_7 : decode cX7_sharpnessBehind 7 = .ok (.i2f, 1) := by decide +kernel
theorem dX7_sharpnessBehind_8 : decode cX7_sharpnessBehind 8 = .ok (.fstore_n 2, 1) := by decide +kernel
theorem dX7_sharpnessBehind_9 : decode cX7_sharpnessBehind 9 = .ok (.aload_n 0, 1) := by decide +kernel
theorem dX7_sharpnessBehind_10 : decode cX7_sharpnessBehind 10 = .ok (.getfield 35, 3) := by decide +kernel
theorem dX7_sharpnessBehind_13 : decode cX7_sharpnessBehind 13 = .ok (.fstore_n 3, 1) := by decide +kernel
theorem dX7_sharpnessBehind_14 : decode cX7_sharpnessBehind 14 = .ok (.iconst 0, 1) := by decide +kernel
theorem dX7_sharpnessBehind_15 : decode cX7_sharpnessBehind 15 = .ok (.istore 4, 2) := by decide +kernel
theorem dX7_sharpnessBehind_17 : decode cX7_sharpnessBehind 17 = .ok (.iload 4, 2) := by decide +kernel
theorem dX7_sharpnessBehind_19 : decode cX7_sharpnessBehind 19 = .ok (.iload_n 1, 1) := by decide +kernel
theorem dX7_sharpnessBehind_20 : decode cX7_sharpnessBehind 20 = .ok (.if_icmp .ge 18, 3) := by decide +kernel
theorem dX7_sharpnessBehind_23 : decode cX7_sharpnessBehind 23 = .ok (.fload_n 3, 1) := by decide +kernel
theorem dX7_sharpnessBehind_24 : decode cX7_sharpnessBehind 24 = .ok (.fload_n 2, 1) := by decide +kernel
theorem dX7_sharpnessBehind_25 : decode cX7_sharpnessBehind 25 = .ok (.fmul, 1) := by decide +kernel
theorem dX7_sharpnessBehind_26 : decode cX7_sharpnessBehind 26 = .ok (.fstore_n 3, 1) := by decide +kernel
theorem dX7_sharpnessBehind_27 : decode cX7_sharpnessBehind 27 = .ok (.fload_n 3, 1) := by decide +kernel
theorem dX7_sharpnessBehind_28 : decode cX7_sharpnessBehind 28 = .ok (.ldc 88, 2) := by decide +kernel
theorem dX7_sharpnessBehind_30 : decode cX7_sharpnessBehind 30 = .ok (.fdiv, 1) := by decide +kernel
theorem dX7_sharpnessBehind_31 : decode cX7_sharpnessBehind 31 = .ok (.fstore_n 3, 1) := by decide +kernel
theorem dX7_sharpnessBehind_32 : decode cX7_sharpnessBehind 32 = .ok (.iinc 4 1, 3) := by decide +kernel
theorem dX7_sharpnessBehind_35 : decode cX7_sharpnessBehind 35 = .ok (.goto (-18), 3) := by decide +kernel
theorem dX7_sharpnessBehind_38 : decode cX7_sharpnessBehind 38 = .ok (.fload_n 3, 1) := by decide +kernel
theorem dX7_sharpnessBehind_39 : decode cX7_sharpnessBehind 39 = .ok (.freturn, 1) := by decide +kernel
theorem dX7_sharpenBy_0 : decode cX7_sharpenBy 0 = .ok (.fconst 1, 1) := by decide +kernel
theorem dX7_sharpenBy_1 : decode cX7_sharpenBy 1 = .ok (.aload_n 0, 1) := by decide +kernel
theorem dX7_sharpenBy_2 : decode cX7_sharpenBy 2 = .ok (.getfield 35, 3) := by decide +kernel
theorem dX7_sharpenBy_5 : decode cX7_sharpenBy 5 = .ok (.fsub, 1) := by decide +kernel
theorem dX7_sharpenBy_6 : decode cX7_sharpenBy 6 = .ok (.iload_n 1, 1) := by decide +kernel
theorem dX7_sharpenBy_7 : decode cX7_sharpenBy 7 = .ok (.i2f, 1) := by decide +kernel
theorem dX7_sharpenBy_8 : decode cX7_sharpenBy 8 = .ok (.fmul, 1) := by decide +kernel
theorem dX7_sharpenBy_9 : decode cX7_sharpenBy 9 = .ok (.fstore_n 2, 1) := by decide +kernel
theorem dX7_sharpenBy_10 : decode cX7_sharpenBy 10 = .ok (.aload_n 0, 1) := by decide +kernel
theorem dX7_sharpenBy_11 : decode cX7_sharpenBy 11 = .ok (.aload_n 0, 1) := by decide +kernel
theorem dX7_sharpenBy_12 : decode cX7_sharpenBy 12 = .ok (.getfield 35, 3) := by decide +kernel
theorem dX7_sharpenBy_15 : decode cX7_sharpenBy 15 = .ok (.fload_n 2, 1) := by decide +kernel
theorem dX7_sharpenBy_16 : decode cX7_sharpenBy 16 = .ok (.ldc 88, 2) := by decide +kernel
theorem dX7_sharpenBy_18 : decode cX7_sharpenBy 18 = .ok (.fdiv, 1) := by decide +kernel
theorem dX7_sharpenBy_19 : decode cX7_sharpenBy 19 = .ok (.fadd, 1) := by decide +kernel
theorem dX7_sharpenBy_20 : decode cX7_sharpenBy 20 = .ok (.putfield 35, 3) := by decide +kernel
theorem dX7_sharpenBy_23 : decode cX7_sharpenBy 23 = .ok (.return_, 1) := by decide +kernel
theorem dX7_vanish_0 : decode cX7_vanish 0 = .ok (.aload_n 0, 1) := by decide +kernel
theorem dX7_vanish_1 : decode cX7_vanish 1 = .ok (.iconst 4, 1) := by decide +kernel
theorem dX7_vanish_2 : decode cX7_vanish 2 = .ok (.putfield 39, 3) := by decide +kernel
theorem dX7_vanish_5 : decode cX7_vanish 5 = .ok (.aload_n 0, 1) := by decide +kernel
theorem dX7_vanish_6 : decode cX7_vanish 6 = .ok (.getfield 21, 3) := by decide +kernel
theorem dX7_vanish_9 : decode cX7_vanish 9 = .ok (.iconst 0, 1) := by decide +kernel
theorem dX7_vanish_10 : decode cX7_vanish 10 = .ok (.putfield 70, 3) := by decide +kernel
theorem dX7_vanish_13 : decode cX7_vanish 13 = .ok (.return_, 1) := by decide +kernel
theorem dX7_tell_0 : decode cX7_tell 0 = .ok (.aload_n 0, 1) := by decide +kernel
theorem dX7_tell_1 : decode cX7_tell 1 = .ok (.getfield 39, 3) := by decide +kernel
theorem dX7_tell_4 : decode cX7_tell 4 = .ok (.ifCond .eq 15, 3) := by decide +kernel
theorem dX7_tell_7 : decode cX7_tell 7 = .ok (.aload_n 0, 1) := by decide +kernel
theorem dX7_tell_8 : decode cX7_tell 8 = .ok (.getfield 39, 3) := by decide +kernel
theorem dX7_tell_11 : decode cX7_tell 11 = .ok (.iconst 4, 1) := by decide +kernel
theorem dX7_tell_12 : decode cX7_tell 12 = .ok (.if_icmp .eq 7, 3) := by decide +kernel
theorem dX7_tell_15 : decode cX7_tell 15 = .ok (.iconst 1, 1) := by decide +kernel
theorem dX7_tell_16 : decode cX7_tell 16 = .ok (.goto 4, 3) := by decide +kernel
theorem dX7_tell_19 : decode cX7_tell 19 = .ok (.iconst 0, 1) := by decide +kernel
theorem dX7_tell_20 : decode cX7_tell 20 = .ok (.istore_n 2, 1) := by decide +kernel
theorem dX7_tell_21 : decode cX7_tell 21 = .ok (.iload_n 1, 1) := by decide +kernel
theorem dX7_tell_22 : decode cX7_tell 22 = .ok (.tableswitch 137 0 8 #[50, 55, 60, 65, 70, 84, 98, 106, 111], 50) := by decide +kernel
theorem dX7_tell_72 : decode cX7_tell 72 = .ok (.aload_n 0, 1) := by decide +kernel
theorem dX7_tell_73 : decode cX7_tell 73 = .ok (.getfield 25, 3) := by decide +kernel
theorem dX7_tell_76 : decode cX7_tell 76 = .ok (.ireturn, 1) := by decide +kernel
theorem dX7_tell_77 : decode cX7_tell 77 = .ok (.aload_n 0, 1) := by decide +kernel
theorem dX7_tell_78 : decode cX7_tell 78 = .ok (.getfield 29, 3) := by decide +kernel
theorem dX7_tell_81 : decode cX7_tell 81 = .ok (.ireturn, 1) := by decide +kernel
theorem dX7_tell_82 : decode cX7_tell 82 = .ok (.aload_n 0, 1) := by decide +kernel
theorem dX7_tell_83 : decode cX7_tell 83 = .ok (.getfield 32, 3) := by decide +kernel
theorem dX7_tell_86 : decode cX7_tell 86 = .ok (.ireturn, 1) := by decide +kernel
theorem dX7_tell_87 : decode cX7_tell 87 = .ok (.aload_n 0, 1) := by decide +kernel
theorem dX7_tell_88 : decode cX7_tell 88 = .ok (.getfield 39, 3) := by decide +kernel
theorem dX7_tell_91 : decode cX7_tell 91 = .ok (.ireturn, 1) := by decide +kernel
theorem dX7_tell_92 : decode cX7_tell 92 = .ok (.iload_n 2, 1) := by decide +kernel
theorem dX7_tell_93 : decode cX7_tell 93 = .ok (.ifCond .eq 10, 3) := by decide +kernel
theorem dX7_tell_96 : decode cX7_tell 96 = .ok (.aload_n 0, 1) := by decide +kernel
theorem dX7_tell_97 : decode cX7_tell 97 = .ok (.getfield 42, 3) := by decide +kernel
theorem dX7_tell_100 : decode cX7_tell 100 = .ok (.goto 5, 3) := by decide +kernel
theorem dX7_tell_103 : decode cX7_tell 103 = .ok (.ldc 89, 2) := by decide +kernel
theorem dX7_tell_105 : decode cX7_tell 105 = .ok (.ireturn, 1) := by decide +kernel
theorem dX7_tell_106 : decode cX7_tell 106 = .ok (.iload_n 2, 1) := by decide +kernel
theorem dX7_tell_107 : decode cX7_tell 107 = .ok (.ifCond .eq 10, 3) := by decide +kernel
theorem dX7_tell_110 : decode cX7_tell 110 = .ok (.aload_n 0, 1) := by decide +kernel
theorem dX7_tell_111 : decode cX7_tell 111 = .ok (.getfield 48, 3) := by decide +kernel
theorem dX7_tell_114 : decode cX7_tell 114 = .ok (.goto 5, 3) := by decide +kernel
theorem dX7_tell_117 : decode cX7_tell 117 = .ok (.ldc 89, 2) := by decide +kernel
theorem dX7_tell_119 : decode cX7_tell 119 = .ok (.ireturn, 1) := by decide +kernel
theorem dX7_tell_120 : decode cX7_tell 120 = .ok (.aload_n 0, 1) := by decide +kernel
theorem dX7_tell_121 : decode cX7_tell 121 = .ok (.getfield 35, 3) := by decide +kernel
theorem dX7_tell_124 : decode cX7_tell 124 = .ok (.invokestatic 90, 3) := by decide +kernel
theorem dX7_tell_127 : decode cX7_tell 127 = .ok (.ireturn, 1) := by decide +kernel
theorem dX7_tell_128 : decode cX7_tell 128 = .ok (.aload_n 0, 1) := by decide +kernel
theorem dX7_tell_129 : decode cX7_tell 129 = .ok (.getfield 54, 3) := by decide +kernel
theorem dX7_tell_132 : decode cX7_tell 132 = .ok (.ireturn, 1) := by decide +kernel
theorem dX7_tell_133 : decode cX7_tell 133 = .ok (.aload_n 0, 1) := by decide +kernel
theorem dX7_tell_134 : decode cX7_tell 134 = .ok (.getfield 57, 3) := by decide +kernel
theorem dX7_tell_137 : decode cX7_tell 137 = .ok (.iconst (-1), 1) := by decide +kernel
theorem dX7_tell_138 : decode cX7_tell 138 = .ok (.if_icmp .ne 8, 3) := by decide +kernel
theorem dX7_tell_141 : decode cX7_tell 141 = .ok (.ldc 89, 2) := by decide +kernel
theorem dX7_tell_143 : decode cX7_tell 143 = .ok (.goto 15, 3) := by decide +kernel
theorem dX7_tell_146 : decode cX7_tell 146 = .ok (.bipush 10, 2) := by decide +kernel
theorem dX7_tell_148 : decode cX7_tell 148 = .ok (.aload_n 0, 1) := by decide +kernel
theorem dX7_tell_149 : decode cX7_tell 149 = .ok (.getfield 57, 3) := by decide +kernel
theorem dX7_tell_152 : decode cX7_tell 152 = .ok (.imul, 1) := by decide +kernel
theorem dX7_tell_153 : decode cX7_tell 153 = .ok (.aload_n 0, 1) := by decide +kernel
theorem dX7_tell_154 : decode cX7_tell 154 = .ok (.getfield 60, 3) := by decide +kernel
theorem dX7_tell_157 : decode cX7_tell 157 = .ok (.iadd, 1) := by decide +kernel
theorem dX7_tell_158 : decode cX7_tell 158 = .ok (.ireturn, 1) := by decide +kernel
theorem dX7_tell_159 : decode cX7_tell 159 = .ok (.ldc 94, 2) := by decide +kernel
theorem dX7_tell_161 : decode cX7_tell 161 = .ok (.ireturn, 1) := by decide +kernel
theorem dX8_init_0 : decode cX8_init 0 = .ok (.aload_n 0, 1) := by decide +kernel
theorem dX8_init_1 : decode cX8_init 1 = .ok (.invokespecial 1, 3) := by decide +kernel
theorem dX8_init_4 : decode cX8_init 4 = .ok (.aload_n 0, 1) := by decide +kernel
theorem dX8_init_5 : decode cX8_init 5 = .ok (.new 7, 3) := by decide +kernel
theorem dX8_init_8 : decode cX8_init 8 = .ok (.dup, 1) := by decide +kernel
theorem dX8_init_9 : decode cX8_init 9 = .ok (.invokespecial 9, 3) := by decide +kernel
theorem dX8_init_12 : decode cX8_init 12 = .ok (.putfield 10, 3) := by decide +kernel
theorem dX8_init_15 : decode cX8_init 15 = .ok (.aload_n 0, 1) := by decide +kernel
theorem dX8_init_16 : decode cX8_init 16 = .ok (.new 7, 3) := by decide +kernel
theorem dX8_init_19 : decode cX8_init 19 = .ok (.dup, 1) := by decide +kernel
theorem dX8_init_20 : decode cX8_init 20 = .ok (.invokespecial 9, 3) := by decide +kernel
theorem dX8_init_23 : decode cX8_init 23 = .ok (.putfield 16, 3) := by decide +kernel
theorem dX8_init_26 : decode cX8_init 26 = .ok (.aload_n 0, 1) := by decide +kernel
theorem dX8_init_27 : decode cX8_init 27 = .ok (.new 19, 3) := by decide +kernel
theorem dX8_init_30 : decode cX8_init 30 = .ok (.dup, 1) := by decide +kernel
theorem dX8_init_31 : decode cX8_init 31 = .ok (.invokespecial 21, 3) := by decide +kernel
theorem dX8_init_34 : decode cX8_init 34 = .ok (.putfield 22, 3) := by decide +kernel
theorem dX8_init_37 : decode cX8_init 37 = .ok (.aload_n 0, 1) := by decide +kernel
theorem dX8_init_38 : decode cX8_init 38 = .ok (.new 26, 3) := by decide +kernel
theorem dX8_init_41 : decode cX8_init 41 = .ok (.dup, 1) := by decide +kernel
theorem dX8_init_42 : decode cX8_init 42 = .ok (.invokespecial 28, 3) := by decide +kernel
theorem dX8_init_45 : decode cX8_init 45 = .ok (.putfield 29, 3) := by decide +kernel
theorem dX8_init_48 : decode cX8_init 48 = .ok (.return_, 1) := by decide +kernel
theorem dX8_set_0 : decode cX8_set 0 = .ok (.aload_n 0, 1) := by decide +kernel
theorem dX8_set_1 : decode cX8_set 1 = .ok (.getfield 22, 3) := by decide +kernel
theorem dX8_set_4 : decode cX8_set 4 = .ok (.aload_n 0, 1) := by decide +kernel
theorem dX8_set_5 : decode cX8_set 5 = .ok (.getfield 10, 3) := by decide +kernel
theorem dX8_set_8 : decode cX8_set 8 = .ok (.invokevirtual 33, 3) := by decide +kernel
theorem dX8_set_11 : decode cX8_set 11 = .ok (.aload_n 0, 1) := by decide +kernel
theorem dX8_set_12 : decode cX8_set 12 = .ok (.aload_n 0, 1) := by decide +kernel
theorem dX8_set_13 : decode cX8_set 13 = .ok (.getfield 10, 3) := by decide +kernel
theorem dX8_set_16 : decode cX8_set 16 = .ok (.iload_n 1, 1) := by decide +kernel
theorem dX8_set_17 : decode cX8_set 17 = .ok (.iload_n 2, 1) := by decide +kernel
theorem dX8_set_18 : decode cX8_set 18 = .ok (.invokevirtual 37, 3) := by decide +kernel
theorem dX8_set_21 : decode cX8_set 21 = .ok (.invokevirtual 41, 3) := by decide +kernel
theorem dX8_set_24 : decode cX8_set 24 = .ok (.ireturn, 1) := by decide +kernel
theorem dX8_member_0 : decode cX8_member 0 = .ok (.aload_n 0, 1) := by decide +kernel
theorem dX8_member_1 : decode cX8_member 1 = .ok (.getfield 22, 3) := by decide +kernel
theorem dX8_member_4 : decode cX8_member 4 = .ok (.aload_n 0, 1) := by decide +kernel
theorem dX8_member_5 : decode cX8_member 5 = .ok (.getfield 10, 3) := by decide +kernel
theorem dX8_member_8 : decode cX8_member 8 = .ok (.invokevirtual 33, 3) := by decide +kernel
theorem dX8_member_11 : decode cX8_member 11 = .ok (.aload_n 0, 1) := by decide +kernel
theorem dX8_member_12 : decode cX8_member 12 = .ok (.aload_n 0, 1) := by decide +kernel
theorem dX8_member_13 : decode cX8_member 13 = .ok (.getfield 10, 3) := by decide +kernel
theorem dX8_member_16 : decode cX8_member 16 = .ok (.getfield 45, 3) := by decide +kernel
theorem dX8_member_19 : decode cX8_member 19 = .ok (.invokevirtual 49, 3) := by decide +kernel
theorem dX8_member_22 : decode cX8_member 22 = .ok (.invokevirtual 41, 3) := by decide +kernel
theorem dX8_member_25 : decode cX8_member 25 = .ok (.ireturn, 1) := by decide +kernel
theorem dX8_away_0 : decode cX8_away 0 = .ok (.aload_n 0, 1) := by decide +kernel
theorem dX8_away_1 : decode cX8_away 1 = .ok (.getfield 22, 3) := by decide +kernel
theorem dX8_away_4 : decode cX8_away 4 = .ok (.aload_n 0, 1) := by decide +kernel
theorem dX8_away_5 : decode cX8_away 5 = .ok (.getfield 10, 3) := by decide +kernel
theorem dX8_away_8 : decode cX8_away 8 = .ok (.invokevirtual 33, 3) := by decide +kernel
theorem dX8_away_11 : decode cX8_away 11 = .ok (.aload_n 0, 1) := by decide +kernel
theorem dX8_away_12 : decode cX8_away 12 = .ok (.aload_n 0, 1) := by decide +kernel
theorem dX8_away_13 : decode cX8_away 13 = .ok (.getfield 10, 3) := by decide +kernel
theorem dX8_away_16 : decode cX8_away 16 = .ok (.getfield 45, 3) := by decide +kernel
theorem dX8_away_19 : decode cX8_away 19 = .ok (.iload_n 1, 1) := by decide +kernel
theorem dX8_away_20 : decode cX8_away 20 = .ok (.iload_n 2, 1) := by decide +kernel
theorem dX8_away_21 : decode cX8_away 21 = .ok (.invokevirtual 55, 3) := by decide +kernel
theorem dX8_away_24 : decode cX8_away 24 = .ok (.invokevirtual 41, 3) := by decide +kernel
theorem dX8_away_27 : decode cX8_away 27 = .ok (.ireturn, 1) := by decide +kernel
theorem dX8_leave_0 : decode cX8_leave 0 = .ok (.aload_n 0, 1) := by decide +kernel
theorem dX8_leave_1 : decode cX8_leave 1 = .ok (.getfield 22, 3) := by decide +kernel
theorem dX8_leave_4 : decode cX8_leave 4 = .ok (.aload_n 0, 1) := by decide +kernel
theorem dX8_leave_5 : decode cX8_leave 5 = .ok (.getfield 10, 3) := by decide +kernel
theorem dX8_leave_8 : decode cX8_leave 8 = .ok (.invokevirtual 33, 3) := by decide +kernel
theorem dX8_leave_11 : decode cX8_leave 11 = .ok (.aload_n 0, 1) := by decide +kernel
theorem dX8_leave_12 : decode cX8_leave 12 = .ok (.aload_n 0, 1) := by decide +kernel
theorem dX8_leave_13 : decode cX8_leave 13 = .ok (.getfield 10, 3) := by decide +kernel
theorem dX8_leave_16 : decode cX8_leave 16 = .ok (.iload_n 1, 1) := by decide +kernel
theorem dX8_leave_17 : decode cX8_leave 17 = .ok (.invokevirtual 58, 3) := by decide +kernel
theorem dX8_leave_20 : decode cX8_leave 20 = .ok (.invokevirtual 41, 3) := by decide +kernel
theorem dX8_leave_23 : decode cX8_leave 23 = .ok (.ireturn, 1) := by decide +kernel
theorem dX8_give_0 : decode cX8_give 0 = .ok (.aload_n 0, 1) := by decide +kernel
theorem dX8_give_1 : decode cX8_give 1 = .ok (.getfield 22, 3) := by decide +kernel
theorem dX8_give_4 : decode cX8_give 4 = .ok (.aload_n 0, 1) := by decide +kernel
theorem dX8_give_5 : decode cX8_give 5 = .ok (.getfield 10, 3) := by decide +kernel
theorem dX8_give_8 : decode cX8_give 8 = .ok (.invokevirtual 33, 3) := by decide +kernel
theorem dX8_give_11 : decode cX8_give 11 = .ok (.aload_n 0, 1) := by decide +kernel
theorem dX8_give_12 : decode cX8_give 12 = .ok (.aload_n 0, 1) := by decide +kernel
theorem dX8_give_13 : decode cX8_give 13 = .ok (.getfield 10, 3) := by decide +kernel
theorem dX8_give_16 : decode cX8_give 16 = .ok (.getfield 45, 3) := by decide +kernel
theorem dX8_give_19 : decode cX8_give 19 = .ok (.iload_n 1, 1) := by decide +kernel
theorem dX8_give_20 : decode cX8_give 20 = .ok (.iload_n 2, 1) := by decide +kernel
theorem dX8_give_21 : decode cX8_give 21 = .ok (.invokevirtual 61, 3) := by decide +kernel
theorem dX8_give_24 : decode cX8_give 24 = .ok (.invokevirtual 41, 3) := by decide +kernel
theorem dX8_give_27 : decode cX8_give 27 = .ok (.ireturn, 1) := by decide +kernel
theorem dX8_memberOf_0 : decode cX8_memberOf 0 = .ok (.aload_n 0, 1) := by decide +kernel
theorem dX8_memberOf_1 : decode cX8_memberOf 1 = .ok (.getfield 10, 3) := by decide +kernel
theorem dX8_memberOf_4 : decode cX8_memberOf 4 = .ok (.iload_n 1, 1) := by decide +kernel
theorem dX8_memberOf_5 : decode cX8_memberOf 5 = .ok (.iload_n 2, 1) := by decide +kernel
theorem dX8_memberOf_6 : decode cX8_memberOf 6 = .ok (.invokevirtual 64, 3) := by decide +kernel
theorem dX8_memberOf_9 : decode cX8_memberOf 9 = .ok (.ireturn, 1) := by decide +kernel
theorem dX8_account_0 : decode cX8_account 0 = .ok (.aload_n 0, 1) := by decide +kernel
theorem dX8_account_1 : decode cX8_account 1 = .ok (.getfield 10, 3) := by decide +kernel
theorem dX8_account_4 : decode cX8_account 4 = .ok (.getfield 45, 3) := by decide +kernel
theorem dX8_account_7 : decode cX8_account 7 = .ok (.iload_n 1, 1) := by decide +kernel
theorem dX8_account_8 : decode cX8_account 8 = .ok (.invokevirtual 67, 3) := by decide +kernel
theorem dX8_account_11 : decode cX8_account 11 = .ok (.ireturn, 1) := by decide +kernel
theorem dX8_debtorAt_0 : decode cX8_debtorAt 0 = .ok (.aload_n 0, 1) := by decide +kernel
theorem dX8_debtorAt_1 : decode cX8_debtorAt 1 = .ok (.getfield 10, 3) := by decide +kernel
theorem dX8_debtorAt_4 : decode cX8_debtorAt 4 = .ok (.getfield 45, 3) := by decide +kernel
theorem dX8_debtorAt_7 : decode cX8_debtorAt 7 = .ok (.iload_n 1, 1) := by decide +kernel
theorem dX8_debtorAt_8 : decode cX8_debtorAt 8 = .ok (.invokevirtual 70, 3) := by decide +kernel
theorem dX8_debtorAt_11 : decode cX8_debtorAt 11 = .ok (.ireturn, 1) := by decide +kernel
theorem dX8_tool_0 : decode cX8_tool 0 = .ok (.aload_n 0, 1) := by decide +kernel
theorem dX8_tool_1 : decode cX8_tool 1 = .ok (.getfield 22, 3) := by decide +kernel
theorem dX8_tool_4 : decode cX8_tool 4 = .ok (.aload_n 0, 1) := by decide +kernel
theorem dX8_tool_5 : decode cX8_tool 5 = .ok (.getfield 10, 3) := by decide +kernel
theorem dX8_tool_8 : decode cX8_tool 8 = .ok (.invokevirtual 33, 3) := by decide +kernel
theorem dX8_tool_11 : decode cX8_tool 11 = .ok (.aload_n 0, 1) := by decide +kernel
theorem dX8_tool_12 : decode cX8_tool 12 = .ok (.aload_n 0, 1) := by decide +kernel
theorem dX8_tool_13 : decode cX8_tool 13 = .ok (.getfield 10, 3) := by decide +kernel
theorem dX8_tool_16 : decode cX8_tool 16 = .ok (.iload_n 1, 1) := by decide +kernel
theorem dX8_tool_17 : decode cX8_tool 17 = .ok (.iload_n 2, 1) := by decide +kernel
theorem dX8_tool_18 : decode cX8_tool 18 = .ok (.iload_n 3, 1) := by decide +kernel
theorem dX8_tool_19 : decode cX8_tool 19 = .ok (.invokevirtual 73, 3) := by decide +kernel
theorem dX8_tool_22 : decode cX8_tool 22 = .ok (.invokevirtual 41, 3) := by decide +kernel
theorem dX8_tool_25 : decode cX8_tool 25 = .ok (.ireturn, 1) := by decide +kernel
theorem dX8_hang_0 : decode cX8_hang 0 = .ok (.aload_n 0, 1) := by decide +kernel
theorem dX8_hang_1 : decode cX8_hang 1 = .ok (.getfield 22, 3) := by decide +kernel
theorem dX8_hang_4 : decode cX8_hang 4 = .ok (.aload_n 0, 1) := by decide +kernel
theorem dX8_hang_5 : decode cX8_hang 5 = .ok (.getfield 10, 3) := by decide +kernel
theorem dX8_hang_8 : decode cX8_hang 8 = .ok (.invokevirtual 33, 3) := by decide +kernel
theorem dX8_hang_11 : decode cX8_hang 11 = .ok (.aload_n 0, 1) := by decide +kernel
theorem dX8_hang_12 : decode cX8_hang 12 = .ok (.aload_n 0, 1) := by decide +kernel
theorem dX8_hang_13 : decode cX8_hang 13 = .ok (.getfield 10, 3) := by decide +kernel
theorem dX8_hang_16 : decode cX8_hang 16 = .ok (.iload_n 1, 1) := by decide +kernel
theorem dX8_hang_17 : decode cX8_hang 17 = .ok (.iload_n 2, 1) := by decide +kernel
theorem dX8_hang_18 : decode cX8_hang 18 = .ok (.iload_n 3, 1) := by decide +kernel
theorem dX8_hang_19 : decode cX8_hang 19 = .ok (.invokevirtual 77, 3) := by decide +kernel
theorem dX8_hang_22 : decode cX8_hang 22 = .ok (.invokevirtual 41, 3) := by decide +kernel
theorem dX8_hang_25 : decode cX8_hang 25 = .ok (.ireturn, 1) := by decide +kernel
theorem dX8_borrow_0 : decode cX8_borrow 0 = .ok (.aload_n 0, 1) := by decide +kernel
theorem dX8_borrow_1 : decode cX8_borrow 1 = .ok (.getfield 22, 3) := by decide +kernel
theorem dX8_borrow_4 : decode cX8_borrow 4 = .ok (.aload_n 0, 1) := by decide +kernel
theorem dX8_borrow_5 : decode cX8_borrow 5 = .ok (.getfield 10, 3) := by decide +kernel
theorem dX8_borrow_8 : decode cX8_borrow 8 = .ok (.invokevirtual 33, 3) := by decide +kernel
theorem dX8_borrow_11 : decode cX8_borrow 11 = .ok (.aload_n 0, 1) := by decide +kernel
theorem dX8_borrow_12 : decode cX8_borrow 12 = .ok (.aload_n 0, 1) := by decide +kernel
theorem dX8_borrow_13 : decode cX8_borrow 13 = .ok (.getfield 10, 3) := by decide +kernel
theorem dX8_borrow_16 : decode cX8_borrow 16 = .ok (.iload_n 1, 1) := by decide +kernel
theorem dX8_borrow_17 : decode cX8_borrow 17 = .ok (.iload_n 2, 1) := by decide +kernel
theorem dX8_borrow_18 : decode cX8_borrow 18 = .ok (.invokevirtual 80, 3) := by decide +kernel
theorem dX8_borrow_21 : decode cX8_borrow 21 = .ok (.invokevirtual 41, 3) := by decide +kernel
theorem dX8_borrow_24 : decode cX8_borrow 24 = .ok (.ireturn, 1) := by decide +kernel
theorem dX8_giveBack_0 : decode cX8_giveBack 0 = .ok (.aload_n 0, 1) := by decide +kernel
theorem dX8_giveBack_1 : decode cX8_giveBack 1 = .ok (.getfield 22, 3) := by decide +kernel
theorem dX8_giveBack_4 : decode cX8_giveBack 4 = .ok (.aload_n 0, 1) := by decide +kernel
theorem dX8_giveBack_5 : decode cX8_giveBack 5 = .ok (.getfield 10, 3) := by decide +kernel
theorem dX8_giveBack_8 : decode cX8_giveBack 8 = .ok (.invokevirtual 33, 3) := by decide +kernel
theorem dX8_giveBack_11 : decode cX8_giveBack 11 = .ok (.aload_n 0, 1) := by decide +kernel
theorem dX8_giveBack_12 : decode cX8_giveBack 12 = .ok (.aload_n 0, 1) := by decide +kernel
theorem dX8_giveBack_13 : decode cX8_giveBack 13 = .ok (.getfield 10, 3) := by decide +kernel
theorem dX8_giveBack_16 : decode cX8_giveBack 16 = .ok (.iload_n 1, 1) := by decide +kernel
theorem dX8_giveBack_17 : decode cX8_giveBack 17 = .ok (.invokevirtual 83, 3) := by decide +kernel
theorem dX8_giveBack_20 : decode cX8_giveBack 20 = .ok (.invokevirtual 41, 3) := by decide +kernel
theorem dX8_giveBack_23 : decode cX8_giveBack 23 = .ok (.ireturn, 1) := by decide +kernel
theorem dX8_toolOf_0 : decode cX8_toolOf 0 = .ok (.aload_n 0, 1) := by decide +kernel
theorem dX8_toolOf_1 : decode cX8_toolOf 1 = .ok (.getfield 10, 3) := by decide +kernel
theorem dX8_toolOf_4 : decode cX8_toolOf 4 = .ok (.iload_n 1, 1) := by decide +kernel
theorem dX8_toolOf_5 : decode cX8_toolOf 5 = .ok (.iload_n 2, 1) := by decide +kernel
theorem dX8_toolOf_6 : decode cX8_toolOf 6 = .ok (.invokevirtual 86, 3) := by decide +kernel
theorem dX8_toolOf_9 : decode cX8_toolOf 9 = .ok (.ireturn, 1) := by decide +kernel
theorem dX8_bits_0 : decode cX8_bits 0 = .ok (.aload_n 0, 1) := by decide +kernel
theorem dX8_bits_1 : decode cX8_bits 1 = .ok (.getfield 10, 3) := by decide +kernel
theorem dX8_bits_4 : decode cX8_bits 4 = .ok (.iload_n 1, 1) := by decide +kernel
theorem dX8_bits_5 : decode cX8_bits 5 = .ok (.invokevirtual 89, 3) := by decide +kernel
theorem dX8_bits_8 : decode cX8_bits 8 = .ok (.ireturn, 1) := by decide +kernel
theorem dX8_dullBehind_0 : decode cX8_dullBehind 0 = .ok (.aload_n 0, 1) := by decide +kernel
theorem dX8_dullBehind_1 : decode cX8_dullBehind 1 = .ok (.getfield 10, 3) := by decide +kernel
theorem dX8_dullBehind_4 : decode cX8_dullBehind 4 = .ok (.iload_n 1, 1) := by decide +kernel
theorem dX8_dullBehind_5 : decode cX8_dullBehind 5 = .ok (.iload_n 2, 1) := by decide +kernel
theorem dX8_dullBehind_6 : decode cX8_dullBehind 6 = .ok (.invokevirtual 92, 3) := by decide +kernel
theorem dX8_dullBehind_9 : decode cX8_dullBehind 9 = .ok (.ireturn, 1) := by decide +kernel
theorem dX8_mean_0 : decode cX8_mean 0 = .ok (.aload_n 0, 1) := by decide +kernel
theorem dX8_mean_1 : decode cX8_mean 1 = .ok (.getfield 10, 3) := by decide +kernel
theorem dX8_mean_4 : decode cX8_mean 4 = .ok (.iload_n 1, 1) := by decide +kernel
theorem dX8_mean_5 : decode cX8_mean 5 = .ok (.invokevirtual 95, 3) := by decide +kernel
theorem dX8_mean_8 : decode cX8_mean 8 = .ok (.ireturn, 1) := by decide +kernel
theorem dX8_hookAt_0 : decode cX8_hookAt 0 = .ok (.aload_n 0, 1) := by decide +kernel
theorem dX8_hookAt_1 : decode cX8_hookAt 1 = .ok (.getfield 10, 3) := by decide +kernel
theorem dX8_hookAt_4 : decode cX8_hookAt 4 = .ok (.iload_n 1, 1) := by decide +kernel
theorem dX8_hookAt_5 : decode cX8_hookAt 5 = .ok (.iload_n 2, 1) := by decide +kernel
theorem dX8_hookAt_6 : decode cX8_hookAt 6 = .ok (.invokevirtual 98, 3) := by decide +kernel
theorem dX8_hookAt_9 : decode cX8_hookAt 9 = .ok (.ireturn, 1) := by decide +kernel
theorem dX8_sharpen_0 : decode cX8_sharpen 0 = .ok (.aload_n 0, 1) := by decide +kernel
theorem dX8_sharpen_1 : decode cX8_sharpen 1 = .ok (.getfield 22, 3) := by decide +kernel
theorem dX8_sharpen_4 : decode cX8_sharpen 4 = .ok (.aload_n 0, 1) := by decide +kernel
theorem dX8_sharpen_5 : decode cX8_sharpen 5 = .ok (.getfield 10, 3) := by decide +kernel
theorem dX8_sharpen_8 : decode cX8_sharpen 8 = .ok (.invokevirtual 33, 3) := by decide +kernel
theorem dX8_sharpen_11 : decode cX8_sharpen 11 = .ok (.aload_n 0, 1) := by decide +kernel
theorem dX8_sharpen_12 : decode cX8_sharpen 12 = .ok (.aload_n 0, 1) := by decide +kernel
theorem dX8_sharpen_13 : decode cX8_sharpen 13 = .ok (.getfield 10, 3) := by decide +kernel
theorem dX8_sharpen_16 : decode cX8_sharpen 16 = .ok (.invokevirtual 101, 3) := by decide +kernel
theorem dX8_sharpen_19 : decode cX8_sharpen 19 = .ok (.invokevirtual 41, 3) := by decide +kernel
theorem dX8_sharpen_22 : decode cX8_sharpen 22 = .ok (.ireturn, 1) := by decide +kernel
theorem dX8_swap_0 : decode cX8_swap 0 = .ok (.aload_n 0, 1) := by decide +kernel
theorem dX8_swap_1 : decode cX8_swap 1 = .ok (.getfield 22, 3) := by decide +kernel
theorem dX8_swap_4 : decode cX8_swap 4 = .ok (.aload_n 0, 1) := by decide +kernel
theorem dX8_swap_5 : decode cX8_swap 5 = .ok (.getfield 10, 3) := by decide +kernel
theorem dX8_swap_8 : decode cX8_swap 8 = .ok (.invokevirtual 33, 3) := by decide +kernel
theorem dX8_swap_11 : decode cX8_swap 11 = .ok (.aload_n 0, 1) := by decide +kernel
theorem dX8_swap_12 : decode cX8_swap 12 = .ok (.aload_n 0, 1) := by decide +kernel
theorem dX8_swap_13 : decode cX8_swap 13 = .ok (.getfield 10, 3) := by decide +kernel
theorem dX8_swap_16 : decode cX8_swap 16 = .ok (.getfield 45, 3) := by decide +kernel
theorem dX8_swap_19 : decode cX8_swap 19 = .ok (.iload_n 1, 1) := by decide +kernel
theorem dX8_swap_20 : decode cX8_swap 20 = .ok (.iload_n 2, 1) := by decide +kernel
theorem dX8_swap_21 : decode cX8_swap 21 = .ok (.invokevirtual 104, 3) := by decide +kernel
theorem dX8_swap_24 : decode cX8_swap 24 = .ok (.invokevirtual 41, 3) := by decide +kernel
theorem dX8_swap_27 : decode cX8_swap 27 = .ok (.ireturn, 1) := by decide +kernel
theorem dX8_turnAt_0 : decode cX8_turnAt 0 = .ok (.aload_n 0, 1) := by decide +kernel
theorem dX8_turnAt_1 : decode cX8_turnAt 1 = .ok (.getfield 10, 3) := by decide +kernel
theorem dX8_turnAt_4 : decode cX8_turnAt 4 = .ok (.getfield 45, 3) := by decide +kernel
theorem dX8_turnAt_7 : decode cX8_turnAt 7 = .ok (.iload_n 1, 1) := by decide +kernel
theorem dX8_turnAt_8 : decode cX8_turnAt 8 = .ok (.invokevirtual 107, 3) := by decide +kernel
theorem dX8_turnAt_11 : decode cX8_turnAt 11 = .ok (.ireturn, 1) := by decide +kernel
theorem dX8_dullAt_0 : decode cX8_dullAt 0 = .ok (.aload_n 0, 1) := by decide +kernel
theorem dX8_dullAt_1 : decode cX8_dullAt 1 = .ok (.getfield 10, 3) := by decide +kernel
theorem dX8_dullAt_4 : decode cX8_dullAt 4 = .ok (.iload_n 1, 1) := by decide +kernel
theorem dX8_dullAt_5 : decode cX8_dullAt 5 = .ok (.invokevirtual 110, 3) := by decide +kernel
theorem dX8_dullAt_8 : decode cX8_dullAt 8 = .ok (.ireturn, 1) := by decide +kernel
theorem dX8_lose_0 : decode cX8_lose 0 = .ok (.aload_n 0, 1) := by decide +kernel
theorem dX8_lose_1 : decode cX8_lose 1 = .ok (.getfield 22, 3) := by decide +kernel
theorem dX8_lose_4 : decode cX8_lose 4 = .ok (.aload_n 0, 1) := by decide +kernel
theorem dX8_lose_5 : decode cX8_lose 5 = .ok (.getfield 10, 3) := by decide +kernel
theorem dX8_lose_8 : decode cX8_lose 8 = .ok (.invokevirtual 33, 3) := by decide +kernel
theorem dX8_lose_11 : decode cX8_lose 11 = .ok (.aload_n 0, 1) := by decide +kernel
theorem dX8_lose_12 : decode cX8_lose 12 = .ok (.aload_n 0, 1) := by decide +kernel
theorem dX8_lose_13 : decode cX8_lose 13 = .ok (.getfield 10, 3) := by decide +kernel
theorem dX8_lose_16 : decode cX8_lose 16 = .ok (.iload_n 1, 1) := by decide +kernel
theorem dX8_lose_17 : decode cX8_lose 17 = .ok (.invokevirtual 113, 3) := by decide +kernel
theorem dX8_lose_20 : decode cX8_lose 20 = .ok (.invokevirtual 41, 3) := by decide +kernel
theorem dX8_lose_23 : decode cX8_lose 23 = .ok (.ireturn, 1) := by decide +kernel
theorem dX8_say_0 : decode cX8_say 0 = .ok (.aload_n 0, 1) := by decide +kernel
theorem dX8_say_1 : decode cX8_say 1 = .ok (.getfield 22, 3) := by decide +kernel
theorem dX8_say_4 : decode cX8_say 4 = .ok (.aload_n 0, 1) := by decide +kernel
theorem dX8_say_5 : decode cX8_say 5 = .ok (.getfield 10, 3) := by decide +kernel
theorem dX8_say_8 : decode cX8_say 8 = .ok (.invokevirtual 33, 3) := by decide +kernel
theorem dX8_say_11 : decode cX8_say 11 = .ok (.aload_n 0, 1) := by decide +kernel
theorem dX8_say_12 : decode cX8_say 12 = .ok (.aload_n 0, 1) := by decide +kernel
theorem dX8_say_13 : decode cX8_say 13 = .ok (.getfield 10, 3) := by decide +kernel
theorem dX8_say_16 : decode cX8_say 16 = .ok (.iload_n 1, 1) := by decide +kernel
theorem dX8_say_17 : decode cX8_say 17 = .ok (.iload_n 2, 1) := by decide +kernel
theorem dX8_say_18 : decode cX8_say 18 = .ok (.iload_n 3, 1) := by decide +kernel
theorem dX8_say_19 : decode cX8_say 19 = .ok (.invokevirtual 116, 3) := by decide +kernel
theorem dX8_say_22 : decode cX8_say 22 = .ok (.invokevirtual 41, 3) := by decide +kernel
theorem dX8_say_25 : decode cX8_say 25 = .ok (.ireturn, 1) := by decide +kernel
theorem dX8_find_0 : decode cX8_find 0 = .ok (.aload_n 0, 1) := by decide +kernel
theorem dX8_find_1 : decode cX8_find 1 = .ok (.getfield 22, 3) := by decide +kernel
theorem dX8_find_4 : decode cX8_find 4 = .ok (.aload_n 0, 1) := by decide +kernel
theorem dX8_find_5 : decode cX8_find 5 = .ok (.getfield 10, 3) := by decide +kernel
theorem dX8_find_8 : decode cX8_find 8 = .ok (.invokevirtual 33, 3) := by decide +kernel
theorem dX8_find_11 : decode cX8_find 11 = .ok (.aload_n 0, 1) := by decide +kernel
theorem dX8_find_12 : decode cX8_find 12 = .ok (.aload_n 0, 1) := by decide +kernel
theorem dX8_find_13 : decode cX8_find 13 = .ok (.getfield 10, 3) := by decide +kernel
theorem dX8_find_16 : decode cX8_find 16 = .ok (.iload_n 1, 1) := by decide +kernel
theorem dX8_find_17 : decode cX8_find 17 = .ok (.invokevirtual 119, 3) := by decide +kernel
theorem dX8_find_20 : decode cX8_find 20 = .ok (.invokevirtual 41, 3) := by decide +kernel
theorem dX8_find_23 : decode cX8_find 23 = .ok (.ireturn, 1) := by decide +kernel
theorem dX8_panelAt_0 : decode cX8_panelAt 0 = .ok (.aload_n 0, 1) := by decide +kernel
theorem dX8_panelAt_1 : decode cX8_panelAt 1 = .ok (.getfield 10, 3) := by decide +kernel
theorem dX8_panelAt_4 : decode cX8_panelAt 4 = .ok (.iload_n 1, 1) := by decide +kernel
theorem dX8_panelAt_5 : decode cX8_panelAt 5 = .ok (.iload_n 2, 1) := by decide +kernel
theorem dX8_panelAt_6 : decode cX8_panelAt 6 = .ok (.iload_n 3, 1) := by decide +kernel
theorem dX8_panelAt_7 : decode cX8_panelAt 7 = .ok (.invokevirtual 122, 3) := by decide +kernel
theorem dX8_panelAt_10 : decode cX8_panelAt 10 = .ok (.ireturn, 1) := by decide +kernel
theorem dX8_propose_0 : decode cX8_propose 0 = .ok (.aload_n 0, 1) := by decide +kernel
theorem dX8_propose_1 : decode cX8_propose 1 = .ok (.getfield 22, 3) := by decide +kernel
theorem dX8_propose_4 : decode cX8_propose 4 = .ok (.aload_n 0, 1) := by decide +kernel
theorem dX8_propose_5 : decode cX8_propose 5 = .ok (.getfield 10, 3) := by decide +kernel
theorem dX8_propose_8 : decode cX8_propose 8 = .ok (.invokevirtual 33, 3) := by decide +kernel
theorem dX8_propose_11 : decode cX8_propose 11 = .ok (.aload_n 0, 1) := by decide +kernel
theorem dX8_propose_12 : decode cX8_propose 12 = .ok (.aload_n 0, 1) := by decide +kernel
theorem dX8_propose_13 : decode cX8_propose 13 = .ok (.getfield 10, 3) := by decide +kernel
theorem dX8_propose_16 : decode cX8_propose 16 = .ok (.iload_n 1, 1) := by decide +kernel
theorem dX8_propose_17 : decode cX8_propose 17 = .ok (.iload_n 2, 1) := by decide +kernel
theorem dX8_propose_18 : decode cX8_propose 18 = .ok (.iload_n 3, 1) := by decide +kernel
theorem dX8_propose_19 : decode cX8_propose 19 = .ok (.invokevirtual 125, 3) := by decide +kernel
theorem dX8_propose_22 : decode cX8_propose 22 = .ok (.invokevirtual 41, 3) := by decide +kernel
theorem dX8_propose_25 : decode cX8_propose 25 = .ok (.ireturn, 1) := by decide +kernel
theorem dX8_vote_0 : decode cX8_vote 0 = .ok (.aload_n 0, 1) := by decide +kernel
theorem dX8_vote_1 : decode cX8_vote 1 = .ok (.getfield 22, 3) := by decide +kernel
theorem dX8_vote_4 : decode cX8_vote 4 = .ok (.aload_n 0, 1) := by decide +kernel
theorem dX8_vote_5 : decode cX8_vote 5 = .ok (.getfield 10, 3) := by decide +kernel
theorem dX8_vote_8 : decode cX8_vote 8 = .ok (.invokevirtual 33, 3) := by decide +kernel
theorem dX8_vote_11 : decode cX8_vote 11 = .ok (.aload_n 0, 1) := by decide +kernel
theorem dX8_vote_12 : decode cX8_vote 12 = .ok (.aload_n 0, 1) := by decide +kernel
theorem dX8_vote_13 : decode cX8_vote 13 = .ok (.getfield 10, 3) := by decide +kernel
theorem dX8_vote_16 : decode cX8_vote 16 = .ok (.iload_n 1, 1) := by decide +kernel
theorem dX8_vote_17 : decode cX8_vote 17 = .ok (.iload_n 2, 1) := by decide +kernel
theorem dX8_vote_18 : decode cX8_vote 18 = .ok (.iload_n 3, 1) := by decide +kernel
theorem dX8_vote_19 : decode cX8_vote 19 = .ok (.invokevirtual 128, 3) := by decide +kernel
theorem dX8_vote_22 : decode cX8_vote 22 = .ok (.invokevirtual 41, 3) := by decide +kernel
theorem dX8_vote_25 : decode cX8_vote 25 = .ok (.ireturn, 1) := by decide +kernel
theorem dX8_proposalOf_0 : decode cX8_proposalOf 0 = .ok (.aload_n 0, 1) := by decide +kernel
theorem dX8_proposalOf_1 : decode cX8_proposalOf 1 = .ok (.getfield 10, 3) := by decide +kernel
theorem dX8_proposalOf_4 : decode cX8_proposalOf 4 = .ok (.iload_n 1, 1) := by decide +kernel
theorem dX8_proposalOf_5 : decode cX8_proposalOf 5 = .ok (.iload_n 2, 1) := by decide +kernel
theorem dX8_proposalOf_6 : decode cX8_proposalOf 6 = .ok (.invokevirtual 131, 3) := by decide +kernel
theorem dX8_proposalOf_9 : decode cX8_proposalOf 9 = .ok (.ireturn, 1) := by decide +kernel
theorem dX8_lendOut_0 : decode cX8_lendOut 0 = .ok (.aload_n 0, 1) := by decide +kernel
theorem dX8_lendOut_1 : decode cX8_lendOut 1 = .ok (.getfield 22, 3) := by decide +kernel
theorem dX8_lendOut_4 : decode cX8_lendOut 4 = .ok (.aload_n 0, 1) := by decide +kernel
theorem dX8_lendOut_5 : decode cX8_lendOut 5 = .ok (.getfield 10, 3) := by decide +kernel
theorem dX8_lendOut_8 : decode cX8_lendOut 8 = .ok (.invokevirtual 33, 3) := by decide +kernel
theorem dX8_lendOut_11 : decode cX8_lendOut 11 = .ok (.aload_n 0, 1) := by decide +kernel
theorem dX8_lendOut_12 : decode cX8_lendOut 12 = .ok (.aload_n 0, 1) := by decide +kernel
theorem dX8_lendOut_13 : decode cX8_lendOut 13 = .ok (.getfield 10, 3) := by decide +kernel
theorem dX8_lendOut_16 : decode cX8_lendOut 16 = .ok (.iload_n 1, 1) := by decide +kernel
theorem dX8_lendOut_17 : decode cX8_lendOut 17 = .ok (.iload_n 2, 1) := by decide +kernel
theorem dX8_lendOut_18 : decode cX8_lendOut 18 = .ok (.iload_n 3, 1) := by decide +kernel
theorem dX8_lendOut_19 : decode cX8_lendOut 19 = .ok (.iload 4, 2) := by decide +kernel
theorem dX8_lendOut_21 : decode cX8_lendOut 21 = .ok (.invokevirtual 134, 3) := by decide +kernel
theorem dX8_lendOut_24 : decode cX8_lendOut 24 = .ok (.invokevirtual 41, 3) := by decide +kernel
theorem dX8_lendOut_27 : decode cX8_lendOut 27 = .ok (.ireturn, 1) := by decide +kernel
theorem dX8_comeBack_0 : decode cX8_comeBack 0 = .ok (.aload_n 0, 1) := by decide +kernel
theorem dX8_comeBack_1 : decode cX8_comeBack 1 = .ok (.getfield 22, 3) := by decide +kernel
theorem dX8_comeBack_4 : decode cX8_comeBack 4 = .ok (.aload_n 0, 1) := by decide +kernel
theorem dX8_comeBack_5 : decode cX8_comeBack 5 = .ok (.getfield 10, 3) := by decide +kernel
theorem dX8_comeBack_8 : decode cX8_comeBack 8 = .ok (.invokevirtual 33, 3) := by decide +kernel
theorem dX8_comeBack_11 : decode cX8_comeBack 11 = .ok (.aload_n 0, 1) := by decide +kernel
theorem dX8_comeBack_12 : decode cX8_comeBack 12 = .ok (.aload_n 0, 1) := by decide +kernel
theorem dX8_comeBack_13 : decode cX8_comeBack 13 = .ok (.getfield 10, 3) := by decide +kernel
theorem dX8_comeBack_16 : decode cX8_comeBack 16 = .ok (.iload_n 1, 1) := by decide +kernel
theorem dX8_comeBack_17 : decode cX8_comeBack 17 = .ok (.invokevirtual 138, 3) := by decide +kernel
theorem dX8_comeBack_20 : decode cX8_comeBack 20 = .ok (.invokevirtual 41, 3) := by decide +kernel
theorem dX8_comeBack_23 : decode cX8_comeBack 23 = .ok (.ireturn, 1) := by decide +kernel
theorem dX8_pass_0 : decode cX8_pass 0 = .ok (.aload_n 0, 1) := by decide +kernel
theorem dX8_pass_1 : decode cX8_pass 1 = .ok (.getfield 22, 3) := by decide +kernel
theorem dX8_pass_4 : decode cX8_pass 4 = .ok (.aload_n 0, 1) := by decide +kernel
theorem dX8_pass_5 : decode cX8_pass 5 = .ok (.getfield 10, 3) := by decide +kernel
theorem dX8_pass_8 : decode cX8_pass 8 = .ok (.invokevirtual 33, 3) := by decide +kernel
theorem dX8_pass_11 : decode cX8_pass 11 = .ok (.aload_n 0, 1) := by decide +kernel
theorem dX8_pass_12 : decode cX8_pass 12 = .ok (.aload_n 0, 1) := by decide +kernel
theorem dX8_pass_13 : decode cX8_pass 13 = .ok (.getfield 10, 3) := by decide +kernel
theorem dX8_pass_16 : decode cX8_pass 16 = .ok (.iload_n 1, 1) := by decide +kernel
theorem dX8_pass_17 : decode cX8_pass 17 = .ok (.invokevirtual 141, 3) := by decide +kernel
theorem dX8_pass_20 : decode cX8_pass 20 = .ok (.invokevirtual 41, 3) := by decide +kernel
theorem dX8_pass_23 : decode cX8_pass 23 = .ok (.ireturn, 1) := by decide +kernel
theorem dX8_count_0 : decode cX8_count 0 = .ok (.iload_n 1, 1) := by decide +kernel
theorem dX8_count_1 : decode cX8_count 1 = .ok (.bipush 10, 2) := by decide +kernel
theorem dX8_count_3 : decode cX8_count 3 = .ok (.if_icmp .ne 11, 3) := by decide +kernel
theorem dX8_count_6 : decode cX8_count 6 = .ok (.aload_n 0, 1) := by decide +kernel
theorem dX8_count_7 : decode cX8_count 7 = .ok (.getfield 22, 3) := by decide +kernel
theorem dX8_count_10 : decode cX8_count 10 = .ok (.getfield 144, 3) := by decide +kernel
theorem dX8_count_13 : decode cX8_count 13 = .ok (.ireturn, 1) := by decide +kernel
theorem dX8_count_14 : decode cX8_count 14 = .ok (.iload_n 1, 1) := by decide +kernel
theorem dX8_count_15 : decode cX8_count 15 = .ok (.bipush 11, 2) := by decide +kernel
theorem dX8_count_17 : decode cX8_count 17 = .ok (.if_icmp .ne 11, 3) := by decide +kernel
theorem dX8_count_20 : decode cX8_count 20 = .ok (.aload_n 0, 1) := by decide +kernel
theorem dX8_count_21 : decode cX8_count 21 = .ok (.getfield 29, 3) := by decide +kernel
theorem dX8_count_24 : decode cX8_count 24 = .ok (.getfield 148, 3) := by decide +kernel
theorem dX8_count_27 : decode cX8_count 27 = .ok (.ireturn, 1) := by decide +kernel
theorem dX8_count_28 : decode cX8_count 28 = .ok (.aload_n 0, 1) := by decide +kernel
theorem dX8_count_29 : decode cX8_count 29 = .ok (.getfield 10, 3) := by decide +kernel
theorem dX8_count_32 : decode cX8_count 32 = .ok (.iload_n 1, 1) := by decide +kernel
theorem dX8_count_33 : decode cX8_count 33 = .ok (.invokevirtual 151, 3) := by decide +kernel
theorem dX8_count_36 : decode cX8_count 36 = .ok (.ireturn, 1) := by decide +kernel
theorem dX8_undo_0 : decode cX8_undo 0 = .ok (.aload_n 0, 1) := by decide +kernel
theorem dX8_undo_1 : decode cX8_undo 1 = .ok (.getfield 22, 3) := by decide +kernel
theorem dX8_undo_4 : decode cX8_undo 4 = .ok (.aload_n 0, 1) := by decide +kernel
theorem dX8_undo_5 : decode cX8_undo 5 = .ok (.getfield 10, 3) := by decide +kernel
theorem dX8_undo_8 : decode cX8_undo 8 = .ok (.invokevirtual 154, 3) := by decide +kernel
theorem dX8_undo_11 : decode cX8_undo 11 = .ok (.ireturn, 1) := by decide +kernel
theorem dX8_type_0 : decode cX8_type 0 = .ok (.aload_n 0, 1) := by decide +kernel
theorem dX8_type_1 : decode cX8_type 1 = .ok (.getfield 29, 3) := by decide +kernel
theorem dX8_type_4 : decode cX8_type 4 = .ok (.iload_n 1, 1) := by decide +kernel
theorem dX8_type_5 : decode cX8_type 5 = .ok (.invokevirtual 158, 3) := by decide +kernel
theorem dX8_type_8 : decode cX8_type 8 = .ok (.ireturn, 1) := by decide +kernel
theorem dX8_clearText_0 : decode cX8_clearText 0 = .ok (.aload_n 0, 1) := by decide +kernel
theorem dX8_clearText_1 : decode cX8_clearText 1 = .ok (.getfield 29, 3) := by decide +kernel
theorem dX8_clearText_4 : decode cX8_clearText 4 = .ok (.invokevirtual 161, 3) := by decide +kernel
theorem dX8_clearText_7 : decode cX8_clearText 7 = .ok (.ireturn, 1) := by decide +kernel
theorem dX8_fault_0 : decode cX8_fault 0 = .ok (.iload_n 1, 1) := by decide +kernel
theorem dX8_fault_1 : decode cX8_fault 1 = .ok (.ifCond .eq 11, 3) := by decide +kernel
theorem dX8_fault_4 : decode cX8_fault 4 = .ok (.iload_n 1, 1) := by decide +kernel
theorem dX8_fault_5 : decode cX8_fault 5 = .ok (.iconst 1, 1) := by decide +kernel
theorem dX8_fault_6 : decode cX8_fault 6 = .ok (.if_icmp .eq 6, 3) := by decide +kernel
theorem dX8_fault_9 : decode cX8_fault 9 = .ok (.ldc 164, 2) := by decide +kernel
theorem dX8_fault_11 : decode cX8_fault 11 = .ok (.ireturn, 1) := by decide +kernel
theorem dX8_fault_12 : decode cX8_fault 12 = .ok (.aload_n 0, 1) := by decide +kernel
theorem dX8_fault_13 : decode cX8_fault 13 = .ok (.getfield 29, 3) := by decide +kernel
theorem dX8_fault_16 : decode cX8_fault 16 = .ok (.aload_n 0, 1) := by decide +kernel
theorem dX8_fault_17 : decode cX8_fault 17 = .ok (.getfield 16, 3) := by decide +kernel
theorem dX8_fault_20 : decode cX8_fault 20 = .ok (.aload_n 0, 1) := by decide +kernel
theorem dX8_fault_21 : decode cX8_fault 21 = .ok (.getfield 10, 3) := by decide +kernel
theorem dX8_fault_24 : decode cX8_fault 24 = .ok (.invokevirtual 165, 3) := by decide +kernel
theorem dX8_fault_27 : decode cX8_fault 27 = .ok (.aload_n 0, 1) := by decide +kernel
theorem dX8_fault_28 : decode cX8_fault 28 = .ok (.getfield 29, 3) := by decide +kernel
theorem dX8_fault_31 : decode cX8_fault 31 = .ok (.getfield 169, 3) := by decide +kernel
theorem dX8_fault_34 : decode cX8_fault 34 = .ok (.ifCond .ne 6, 3) := by decide +kernel
theorem dX8_fault_37 : decode cX8_fault 37 = .ok (.ldc 172, 2) := by decide +kernel
theorem dX8_fault_39 : decode cX8_fault 39 = .ok (.ireturn, 1) := by decide +kernel
theorem dX8_fault_40 : decode cX8_fault 40 = .ok (.iload_n 1, 1) := by decide +kernel
theorem dX8_fault_41 : decode cX8_fault 41 = .ok (.ifCond .ne 13, 3) := by decide +kernel
theorem dX8_fault_44 : decode cX8_fault 44 = .ok (.aload_n 0, 1) := by decide +kernel
theorem dX8_fault_45 : decode cX8_fault 45 = .ok (.getfield 29, 3) := by decide +kernel
theorem dX8_fault_48 : decode cX8_fault 48 = .ok (.getfield 173, 3) := by decide +kernel
theorem dX8_fault_51 : decode cX8_fault 51 = .ok (.goto 10, 3) := by decide +kernel
theorem dX8_fault_54 : decode cX8_fault 54 = .ok (.aload_n 0, 1) := by decide +kernel
theorem dX8_fault_55 : decode cX8_fault 55 = .ok (.getfield 29, 3) := by decide +kernel
theorem dX8_fault_58 : decode cX8_fault 58 = .ok (.getfield 169, 3) := by decide +kernel
theorem dX8_fault_61 : decode cX8_fault 61 = .ok (.ireturn, 1) := by decide +kernel
theorem dX8_play_0 : decode cX8_play 0 = .ok (.aload_n 0, 1) := by decide +kernel
theorem dX8_play_1 : decode cX8_play 1 = .ok (.getfield 29, 3) := by decide +kernel
theorem dX8_play_4 : decode cX8_play 4 = .ok (.aload_n 0, 1) := by decide +kernel
theorem dX8_play_5 : decode cX8_play 5 = .ok (.getfield 16, 3) := by decide +kernel
theorem dX8_play_8 : decode cX8_play 8 = .ok (.aload_n 0, 1) := by decide +kernel
theorem dX8_play_9 : decode cX8_play 9 = .ok (.getfield 10, 3) := by decide +kernel
theorem dX8_play_12 : decode cX8_play 12 = .ok (.invokevirtual 165, 3) := by decide +kernel
theorem dX8_play_15 : decode cX8_play 15 = .ok (.aload_n 0, 1) := by decide +kernel
theorem dX8_play_16 : decode cX8_play 16 = .ok (.getfield 29, 3) := by decide +kernel
theorem dX8_play_19 : decode cX8_play 19 = .ok (.getfield 169, 3) := by decide +kernel
theorem dX8_play_22 : decode cX8_play 22 = .ok (.ifCond .eq 6, 3) := by decide +kernel
theorem dX8_play_25 : decode cX8_play 25 = .ok (.ldc 176, 2) := by decide +kernel
theorem dX8_play_27 : decode cX8_play 27 = .ok (.ireturn, 1) := by decide +kernel
theorem dX8_play_28 : decode cX8_play 28 = .ok (.aload_n 0, 1) := by decide +kernel
theorem dX8_play_29 : decode cX8_play 29 = .ok (.getfield 22, 3) := by decide +kernel
theorem dX8_play_32 : decode cX8_play 32 = .ok (.aload_n 0, 1) := by decide +kernel
theorem dX8_play_33 : decode cX8_play 33 = .ok (.getfield 10, 3) := by decide +kernel
theorem dX8_play_36 : decode cX8_play 36 = .ok (.invokevirtual 33, 3) := by decide +kernel
theorem dX8_play_39 : decode cX8_play 39 = .ok (.aload_n 0, 1) := by decide +kernel
theorem dX8_play_40 : decode cX8_play 40 = .ok (.getfield 10, 3) := by decide +kernel
theorem dX8_play_43 : decode cX8_play 43 = .ok (.aload_n 0, 1) := by decide +kernel
theorem dX8_play_44 : decode cX8_play 44 = .ok (.getfield 16, 3) := by decide +kernel
theorem dX8_play_47 : decode cX8_play 47 = .ok (.invokevirtual 177, 3) := by decide +kernel
theorem dX8_play_50 : decode cX8_play 50 = .ok (.aload_n 0, 1) := by decide +kernel
theorem dX8_play_51 : decode cX8_play 51 = .ok (.aload_n 0, 1) := by decide +kernel
theorem dX8_play_52 : decode cX8_play 52 = .ok (.getfield 29, 3) := by decide +kernel
theorem dX8_play_55 : decode cX8_play 55 = .ok (.getfield 180, 3) := by decide +kernel
theorem dX8_play_58 : decode cX8_play 58 = .ok (.invokevirtual 41, 3) := by decide +kernel
theorem dX8_play_61 : decode cX8_play 61 = .ok (.ireturn, 1) := by decide +kernel
theorem dX8_changed_0 : decode cX8_changed 0 = .ok (.iload_n 1, 1) := by decide +kernel
theorem dX8_changed_1 : decode cX8_changed 1 = .ok (.ifCond .lt 10, 3) := by decide +kernel
theorem dX8_changed_4 : decode cX8_changed 4 = .ok (.aload_n 0, 1) := by decide +kernel
theorem dX8_changed_5 : decode cX8_changed 5 = .ok (.getfield 22, 3) := by decide +kernel
theorem dX8_changed_8 : decode cX8_changed 8 = .ok (.invokevirtual 183, 3) := by decide +kernel
theorem dX8_changed_11 : decode cX8_changed 11 = .ok (.iload_n 1, 1) := by decide +kernel
theorem dX8_changed_12 : decode cX8_changed 12 = .ok (.ireturn, 1) := by decide +kernel
theorem dX8_thousandths_0 : decode cX8_thousandths 0 = .ok (.fload_n 0, 1) := by decide +kernel
theorem dX8_thousandths_1 : decode cX8_thousandths 1 = .ok (.ldc 186, 2) := by decide +kernel
theorem dX8_thousandths_3 : decode cX8_thousandths 3 = .ok (.fmul, 1) := by decide +kernel
theorem dX8_thousandths_4 : decode cX8_thousandths 4 = .ok (.f2i, 1) := by decide +kernel
theorem dX8_thousandths_5 : decode cX8_thousandths 5 = .ok (.ireturn, 1) := by decide +kernel
theorem dX8_floatBits_0 : decode cX8_floatBits 0 = .ok (.fload_n 0, 1) := by decide +kernel
theorem dX8_floatBits_1 : decode cX8_floatBits 1 = .ok (.fstore_n 1, 1) := by decide +kernel
theorem dX8_floatBits_2 : decode cX8_floatBits 2 = .ok (.bipush 127, 2) := by decide +kernel
theorem dX8_floatBits_4 : decode cX8_floatBits 4 = .ok (.istore_n 2, 1) := by decide +kernel
theorem dX8_floatBits_5 : decode cX8_floatBits 5 = .ok (.fload_n 1, 1) := by decide +kernel
theorem dX8_floatBits_6 : decode cX8_floatBits 6 = .ok (.fconst 1, 1) := by decide +kernel
theorem dX8_floatBits_7 : decode cX8_floatBits 7 = .ok (.fcmp .g, 1) := by decide +kernel
theorem dX8_floatBits_8 : decode cX8_floatBits 8 = .ok (.ifCond .ge 18, 3) := by decide +kernel
theorem dX8_floatBits_11 : decode cX8_floatBits 11 = .ok (.iload_n 2, 1) := by decide +kernel
theorem dX8_floatBits_12 : decode cX8_floatBits 12 = .ok (.iconst 1, 1) := by decide +kernel
theorem dX8_floatBits_13 : decode cX8_floatBits 13 = .ok (.if_icmp .le 13, 3) := by decide +kernel
theorem dX8_floatBits_16 : decode cX8_floatBits 16 = .ok (.fload_n 1, 1) := by decide +kernel
theorem dX8_floatBits_17 : decode cX8_floatBits 17 = .ok (.fconst 2, 1) := by decide +kernel
theorem dX8_floatBits_18 : decode cX8_floatBits 18 = .ok (.fmul, 1) := by decide +kernel
theorem dX8_floatBits_19 : decode cX8_floatBits 19 = .ok (.fstore_n 1, 1) := by decide +kernel
theorem dX8_floatBits_20 : decode cX8_floatBits 20 = .ok (.iinc 2 (-1), 3) := by decide +kernel
theorem dX8_floatBits_23 : decode cX8_floatBits 23 = .ok (.goto (-18), 3) := by decide +kernel
theorem dX8_floatBits_26 : decode cX8_floatBits 26 = .ok (.iload_n 2, 1) := by decide +kernel
theorem dX8_floatBits_27 : decode cX8_floatBits 27 = .ok (.bipush 23, 2) := by decide +kernel
theorem dX8_floatBits_29 : decode cX8_floatBits 29 = .ok (.ishl, 1) := by decide +kernel
theorem dX8_floatBits_30 : decode cX8_floatBits 30 = .ok (.fload_n 1, 1) := by decide +kernel
theorem dX8_floatBits_31 : decode cX8_floatBits 31 = .ok (.fconst 1, 1) := by decide +kernel
theorem dX8_floatBits_32 : decode cX8_floatBits 32 = .ok (.fsub, 1) := by decide +kernel
theorem dX8_floatBits_33 : decode cX8_floatBits 33 = .ok (.ldc 187, 2) := by decide +kernel
theorem dX8_floatBits_35 : decode cX8_floatBits 35 = .ok (.fmul, 1) := by decide +kernel
theorem dX8_floatBits_36 : decode cX8_floatBits 36 = .ok (.f2i, 1) := by decide +kernel
theorem dX8_floatBits_37 : decode cX8_floatBits 37 = .ok (.iadd, 1) := by decide +kernel
theorem dX8_floatBits_38 : decode cX8_floatBits 38 = .ok (.ireturn, 1) := by decide +kernel
theorem dJxf58ca_isNaN_12338_0 : decode cJxf58ca_isNaN_12338 0 = .ok (.fload_n 0, 1) := by decide +kernel
theorem dJxf58ca_isNaN_12338_1 : decode cJxf58ca_isNaN_12338 1 = .ok (.fload_n 0, 1) := by decide +kernel
theorem dJxf58ca_isNaN_12338_2 : decode cJxf58ca_isNaN_12338 2 = .ok (.fcmp .l, 1) := by decide +kernel
theorem dJxf58ca_isNaN_12338_3 : decode cJxf58ca_isNaN_12338 3 = .ok (.ifCond .eq 7, 3) := by decide +kernel
theorem dJxf58ca_isNaN_12338_6 : decode cJxf58ca_isNaN_12338 6 = .ok (.iconst 1, 1) := by decide +kernel
theorem dJxf58ca_isNaN_12338_7 : decode cJxf58ca_isNaN_12338 7 = .ok (.goto 4, 3) := by decide +kernel
theorem dJxf58ca_isNaN_12338_10 : decode cJxf58ca_isNaN_12338 10 = .ok (.iconst 0, 1) := by decide +kernel
theorem dJxf58ca_isNaN_12338_11 : decode cJxf58ca_isNaN_12338 11 = .ok (.ireturn, 1) := by decide +kernel
theorem dJxf58ca_floatToIntBits_5c35a_0 : decode cJxf58ca_floatToIntBits_5c35a 0 = .ok (.fload_n 0, 1) := by decide +kernel
theorem dJxf58ca_floatToIntBits_5c35a_1 : decode cJxf58ca_floatToIntBits_5c35a 1 = .ok (.invokestatic 59, 3) := by decide +kernel
theorem dJxf58ca_floatToIntBits_5c35a_4 : decode cJxf58ca_floatToIntBits_5c35a 4 = .ok (.ifCond .ne 8, 3) := by decide +kernel
theorem dJxf58ca_floatToIntBits_5c35a_7 : decode cJxf58ca_floatToIntBits_5c35a 7 = .ok (.fload_n 0, 1) := by decide +kernel
theorem dJxf58ca_floatToIntBits_5c35a_8 : decode cJxf58ca_floatToIntBits_5c35a 8 = .ok (.invokestatic 74, 3) := by decide +kernel
theorem dJxf58ca_floatToIntBits_5c35a_11 : decode cJxf58ca_floatToIntBits_5c35a 11 = .ok (.ireturn, 1) := by decide +kernel
theorem dJxf58ca_floatToIntBits_5c35a_12 : decode cJxf58ca_floatToIntBits_5c35a 12 = .ok (.ldc 77, 2) := by decide +kernel
theorem dJxf58ca_floatToIntBits_5c35a_14 : decode cJxf58ca_floatToIntBits_5c35a 14 = .ok (.ireturn, 1) := by decide +kernel
theorem dJ9_max_7cf53_0 : decode cJ9_max_7cf53 0 = .ok (.iload_n 0, 1) := by decide +kernel
theorem dJ9_max_7cf53_1 : decode cJ9_max_7cf53 1 = .ok (.iload_n 1, 1) := by decide +kernel
theorem dJ9_max_7cf53_2 : decode cJ9_max_7cf53 2 = .ok (.if_icmp .lt 7, 3) := by decide +kernel
theorem dJ9_max_7cf53_5 : decode cJ9_max_7cf53 5 = .ok (.iload_n 0, 1) := by decide +kernel
theorem dJ9_max_7cf53_6 : decode cJ9_max_7cf53 6 = .ok (.goto 4, 3) := by decide +kernel
theorem dJ9_max_7cf53_9 : decode cJ9_max_7cf53 9 = .ok (.iload_n 1, 1) := by decide +kernel
theorem dJ9_max_7cf53_10 : decode cJ9_max_7cf53 10 = .ok (.ireturn, 1) := by decide +kernel
theorem dJ9_min_7cf53_0 : decode cJ9_min_7cf53 0 = .ok (.iload_n 0, 1) := by decide +kernel
theorem dJ9_min_7cf53_1 : decode cJ9_min_7cf53 1 = .ok (.iload_n 1, 1) := by decide +kernel
theorem dJ9_min_7cf53_2 : decode cJ9_min_7cf53 2 = .ok (.if_icmp .gt 7, 3) := by decide +kernel
theorem dJ9_min_7cf53_5 : decode cJ9_min_7cf53 5 = .ok (.iload_n 0, 1) := by decide +kernel
theorem dJ9_min_7cf53_6 : decode cJ9_min_7cf53 6 = .ok (.goto 4, 3) := by decide +kernel
theorem dJ9_min_7cf53_9 : decode cJ9_min_7cf53 9 = .ok (.iload_n 1, 1) := by decide +kernel
theorem dJ9_min_7cf53_10 : decode cJ9_min_7cf53 10 = .ok (.ireturn, 1) := by decide +kernel
