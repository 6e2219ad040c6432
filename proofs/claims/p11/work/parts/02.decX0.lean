theorem dX0_init_0 : decode cX0_init 0 = .ok (.aload_n 0, 1) := by decide +kernel
theorem dX0_init_1 : decode cX0_init 1 = .ok (.invokespecial 3, 3) := by decide +kernel
theorem dX0_init_4 : decode cX0_init 4 = .ok (.aload_n 0, 1) := by decide +kernel
theorem dX0_init_5 : decode cX0_init 5 = .ok (.bipush 8, 2) := by decide +kernel
theorem dX0_init_7 : decode cX0_init 7 = .ok (.newarray .int, 2) := by decide +kernel
theorem dX0_init_9 : decode cX0_init 9 = .ok (.putfield 9, 3) := by decide +kernel
theorem dX0_init_12 : decode cX0_init 12 = .ok (.aload_n 0, 1) := by decide +kernel
theorem dX0_init_13 : decode cX0_init 13 = .ok (.bipush 8, 2) := by decide +kernel
theorem dX0_init_15 : decode cX0_init 15 = .ok (.newarray .int, 2) := by decide +kernel
theorem dX0_init_17 : decode cX0_init 17 = .ok (.putfield 15, 3) := by decide +kernel
theorem dX0_init_20 : decode cX0_init 20 = .ok (.aload_n 0, 1) := by decide +kernel
theorem dX0_init_21 : decode cX0_init 21 = .ok (.bipush 8, 2) := by decide +kernel
theorem dX0_init_23 : decode cX0_init 23 = .ok (.newarray .int, 2) := by decide +kernel
theorem dX0_init_25 : decode cX0_init 25 = .ok (.putfield 18, 3) := by decide +kernel
theorem dX0_init_28 : decode cX0_init 28 = .ok (.return_, 1) := by decide +kernel
theorem dX0_start_0 : decode cX0_start 0 = .ok (.aload_n 0, 1) := by decide +kernel
theorem dX0_start_1 : decode cX0_start 1 = .ok (.iconst 1, 1) := by decide +kernel
theorem dX0_start_2 : decode cX0_start 2 = .ok (.putfield 21, 3) := by decide +kernel
theorem dX0_start_5 : decode cX0_start 5 = .ok (.aload_n 0, 1) := by decide +kernel
theorem dX0_start_6 : decode cX0_start 6 = .ok (.iconst 0, 1) := by decide +kernel
theorem dX0_start_7 : decode cX0_start 7 = .ok (.putfield 25, 3) := by decide +kernel
theorem dX0_start_10 : decode cX0_start 10 = .ok (.return_, 1) := by decide +kernel
theorem dX0_forget_0 : decode cX0_forget 0 = .ok (.aload_n 0, 1) := by decide +kernel
theorem dX0_forget_1 : decode cX0_forget 1 = .ok (.iconst 0, 1) := by decide +kernel
theorem dX0_forget_2 : decode cX0_forget 2 = .ok (.putfield 21, 3) := by decide +kernel
theorem dX0_forget_5 : decode cX0_forget 5 = .ok (.aload_n 0, 1) := by decide +kernel
theorem dX0_forget_6 : decode cX0_forget 6 = .ok (.iconst 0, 1) := by decide +kernel
theorem dX0_forget_7 : decode cX0_forget 7 = .ok (.putfield 25, 3) := by decide +kernel
theorem dX0_forget_10 : decode cX0_forget 10 = .ok (.return_, 1) := by decide +kernel
theorem dX0_find_0 : decode cX0_find 0 = .ok (.iconst 0, 1) := by decide +kernel
theorem dX0_find_1 : decode cX0_find 1 = .ok (.istore_n 2, 1) := by decide +kernel
theorem dX0_find_2 : decode cX0_find 2 = .ok (.iload_n 2, 1) := by decide +kernel
theorem dX0_find_3 : decode cX0_find 3 = .ok (.aload_n 0, 1) := by decide +kernel
theorem dX0_find_4 : decode cX0_find 4 = .ok (.getfield 25, 3) := by decide +kernel
theorem dX0_find_7 : decode cX0_find 7 = .ok (.if_icmp .ge 21, 3) := by decide +kernel
theorem dX0_find_10 : decode cX0_find 10 = .ok (.aload_n 0, 1) := by decide +kernel
theorem dX0_find_11 : decode cX0_find 11 = .ok (.getfield 9, 3) := by decide +kernel
theorem dX0_find_14 : decode cX0_find 14 = .ok (.iload_n 2, 1) := by decide +kernel
theorem dX0_find_15 : decode cX0_find 15 = .ok (.iaload, 1) := by decide +kernel
theorem dX0_find_16 : decode cX0_find 16 = .ok (.iload_n 1, 1) := by decide +kernel
theorem dX0_find_17 : decode cX0_find 17 = .ok (.if_icmp .ne 5, 3) := by decide +kernel
theorem dX0_find_20 : decode cX0_find 20 = .ok (.iload_n 2, 1) := by decide +kernel
theorem dX0_find_21 : decode cX0_find 21 = .ok (.ireturn, 1) := by decide +kernel
theorem dX0_find_22 : decode cX0_find 22 = .ok (.iinc 2 1, 3) := by decide +kernel
theorem dX0_find_25 : decode cX0_find 25 = .ok (.goto (-23), 3) := by decide +kernel
theorem dX0_find_28 : decode cX0_find 28 = .ok (.iconst (-1), 1) := by decide +kernel
theorem dX0_find_29 : decode cX0_find 29 = .ok (.ireturn, 1) := by decide +kernel
theorem dX0_tell_0 : decode cX0_tell 0 = .ok (.aload_n 0, 1) := by decide +kernel
theorem dX0_tell_1 : decode cX0_tell 1 = .ok (.iload_n 1, 1) := by decide +kernel
theorem dX0_tell_2 : decode cX0_tell 2 = .ok (.invokevirtual 29, 3) := by decide +kernel
theorem dX0_tell_5 : decode cX0_tell 5 = .ok (.istore 4, 2) := by decide +kernel
theorem dX0_tell_7 : decode cX0_tell 7 = .ok (.iload 4, 2) := by decide +kernel
theorem dX0_tell_9 : decode cX0_tell 9 = .ok (.iconst (-1), 1) := by decide +kernel
theorem dX0_tell_10 : decode cX0_tell 10 = .ok (.if_icmp .ne 30, 3) := by decide +kernel
theorem dX0_tell_13 : decode cX0_tell 13 = .ok (.aload_n 0, 1) := by decide +kernel
theorem dX0_tell_14 : decode cX0_tell 14 = .ok (.getfield 25, 3) := by decide +kernel
theorem dX0_tell_17 : decode cX0_tell 17 = .ok (.bipush 8, 2) := by decide +kernel
theorem dX0_tell_19 : decode cX0_tell 19 = .ok (.if_icmp .lt 5, 3) := by decide +kernel
theorem dX0_tell_22 : decode cX0_tell 22 = .ok (.iconst (-1), 1) := by decide +kernel
theorem dX0_tell_23 : decode cX0_tell 23 = .ok (.ireturn, 1) := by decide +kernel
theorem dX0_tell_24 : decode cX0_tell 24 = .ok (.aload_n 0, 1) := by decide +kernel
theorem dX0_tell_25 : decode cX0_tell 25 = .ok (.getfield 25, 3) := by decide +kernel
theorem dX0_tell_28 : decode cX0_tell 28 = .ok (.istore 4, 2) := by decide +kernel
theorem dX0_tell_30 : decode cX0_tell 30 = .ok (.aload_n 0, 1) := by decide +kernel
theorem dX0_tell_31 : decode cX0_tell 31 = .ok (.dup, 1) := by decide +kernel
theorem dX0_tell_32 : decode cX0_tell 32 = .ok (.getfield 25, 3) := by decide +kernel
theorem dX0_tell_35 : decode cX0_tell 35 = .ok (.iconst 1, 1) := by decide +kernel
theorem dX0_tell_36 : decode cX0_tell 36 = .ok (.iadd, 1) := by decide +kernel
theorem dX0_tell_37 : decode cX0_tell 37 = .ok (.putfield 25, 3) := by decide +kernel
theorem dX0_tell_40 : decode cX0_tell 40 = .ok (.aload_n 0, 1) := by decide +kernel
theorem dX0_tell_41 : decode cX0_tell 41 = .ok (.getfield 9, 3) := by decide +kernel
theorem dX0_tell_44 : decode cX0_tell 44 = .ok (.iload 4, 2) := by decide +kernel
theorem dX0_tell_46 : decode cX0_tell 46 = .ok (.iload_n 1, 1) := by decide +kernel
theorem dX0_tell_47 : decode cX0_tell 47 = .ok (.iastore, 1) := by decide +kernel
theorem dX0_tell_48 : decode cX0_tell 48 = .ok (.aload_n 0, 1) := by decide +kernel
theorem dX0_tell_49 : decode cX0_tell 49 = .ok (.getfield 15, 3) := by decide +kernel
theorem dX0_tell_52 : decode cX0_tell 52 = .ok (.iload 4, 2) := by decide +kernel
theorem dX0_tell_54 : decode cX0_tell 54 = .ok (.iload_n 2, 1) := by decide +kernel
theorem dX0_tell_55 : decode cX0_tell 55 = .ok (.iastore, 1) := by decide +kernel
theorem dX0_tell_56 : decode cX0_tell 56 = .ok (.aload_n 0, 1) := by decide +kernel
theorem dX0_tell_57 : decode cX0_tell 57 = .ok (.getfield 18, 3) := by decide +kernel
theorem dX0_tell_60 : decode cX0_tell 60 = .ok (.iload 4, 2) := by decide +kernel
theorem dX0_tell_62 : decode cX0_tell 62 = .ok (.iload_n 3, 1) := by decide +kernel
theorem dX0_tell_63 : decode cX0_tell 63 = .ok (.iastore, 1) := by decide +kernel
theorem dX0_tell_64 : decode cX0_tell 64 = .ok (.iconst 0, 1) := by decide +kernel
theorem dX0_tell_65 : decode cX0_tell 65 = .ok (.ireturn, 1) := by decide +kernel
theorem dX0_bytesToWrite_0 : decode cX0_bytesToWrite 0 = .ok (.iconst 4, 1) := by decide +kernel
theorem dX0_bytesToWrite_1 : decode cX0_bytesToWrite 1 = .ok (.istore_n 1, 1) := by decide +kernel
theorem dX0_bytesToWrite_2 : decode cX0_bytesToWrite 2 = .ok (.iconst 0, 1) := by decide +kernel
theorem dX0_bytesToWrite_3 : decode cX0_bytesToWrite 3 = .ok (.istore_n 2, 1) := by decide +kernel
theorem dX0_bytesToWrite_4 : decode cX0_bytesToWrite 4 = .ok (.iload_n 2, 1) := by decide +kernel
theorem dX0_bytesToWrite_5 : decode cX0_bytesToWrite 5 = .ok (.aload_n 0, 1) := by decide +kernel
theorem dX0_bytesToWrite_6 : decode cX0_bytesToWrite 6 = .ok (.getfield 25, 3) := by decide +kernel
theorem dX0_bytesToWrite_9 : decode cX0_bytesToWrite 9 = .ok (.if_icmp .ge 20, 3) := by decide +kernel
theorem dX0_bytesToWrite_12 : decode cX0_bytesToWrite 12 = .ok (.iload_n 1, 1) := by decide +kernel
theorem dX0_bytesToWrite_13 : decode cX0_bytesToWrite 13 = .ok (.iconst 3, 1) := by decide +kernel
theorem dX0_bytesToWrite_14 : decode cX0_bytesToWrite 14 = .ok (.aload_n 0, 1) := by decide +kernel
theorem dX0_bytesToWrite_15 : decode cX0_bytesToWrite 15 = .ok (.getfield 18, 3) := by decide +kernel
theorem dX0_bytesToWrite_18 : decode cX0_bytesToWrite 18 = .ok (.iload_n 2, 1) := by decide +kernel
theorem dX0_bytesToWrite_19 : decode cX0_bytesToWrite 19 = .ok (.iaload, 1) := by decide +kernel
theorem dX0_bytesToWrite_20 : decode cX0_bytesToWrite 20 = .ok (.iadd, 1) := by decide +kernel
theorem dX0_bytesToWrite_21 : decode cX0_bytesToWrite 21 = .ok (.iadd, 1) := by decide +kernel
theorem dX0_bytesToWrite_22 : decode cX0_bytesToWrite 22 = .ok (.istore_n 1, 1) := by decide +kernel
theorem dX0_bytesToWrite_23 : decode cX0_bytesToWrite 23 = .ok (.iinc 2 1, 3) := by decide +kernel
theorem dX0_bytesToWrite_26 : decode cX0_bytesToWrite 26 = .ok (.goto (-22), 3) := by decide +kernel
theorem dX0_bytesToWrite_29 : decode cX0_bytesToWrite 29 = .ok (.iload_n 1, 1) := by decide +kernel
theorem dX0_bytesToWrite_30 : decode cX0_bytesToWrite 30 = .ok (.ireturn, 1) := by decide +kernel
